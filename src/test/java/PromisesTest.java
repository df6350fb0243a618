/** For each promise of the document: ordinary calls, the edges that it names, and wrong inputs. */
public final class PromisesTest {
    private static final int INVALID = -1000001;
    private static final int NOT_POSSIBLE = -1000002;
    private static final int LIMIT = -1000003;
    private static final int NOT_FOUND = -1000004;
    private static final int MIN = Integer.MIN_VALUE;
    private static final int MAX = Integer.MAX_VALUE;

    private static final int PROMISES = 18;
    /** One of the four sides is out of range, or a low one is greater than its high one. */
    private static final int[][] WRONG_SIDES = {{-1, 0, 0, 0}, {0, -1, 0, 0}, {1, 0, 0, 0}, {0, 1, 0, 0}, {0, 0, 100, 0},
        {0, 0, 0, 100}, {100, 0, 100, 0}, {0, 100, 0, 100}, {-1, 0, -1, 0}, {0, -1, 0, -1}, {MIN, 0, 0, 0},
        {0, MIN, 0, 0}, {0, 0, MAX, 0}, {0, 0, 0, MAX}};

    private static int promise = 0;
    private static int calls = 0;
    private static int wrong = 0;

    private static void due(String call, int got, int want) {
        calls++;
        if (got != want) {
            wrong++;
            System.out.println("Promise " + promise + ": " + call + " answered " + got + ", due is " + want);
        }
    }

    /** The answers after this are those of the promise with this number; none of the promises is left out. */
    private static void promise(int number) {
        if (number != promise + 1 || promise > 0 && calls == 0) {
            wrong++;
            System.out.println("Promise " + promise + ": no call, or promise " + number + " is not the next one");
        }
        promise = number;
        calls = 0;
    }

    private static void write(BoxCourt x, String text) {
        x.clearText();
        for (int i = 0; i < text.length(); i++) {
            due("type of " + text + " at " + i, x.type(text.charAt(i)), i + 1);
        }
    }

    /** Points on a line and two far ones: leaves {0, 4, 1} and {2, 3}. */
    private static BoxCourt line() {
        BoxCourt x = new BoxCourt();
        x.put(0, 0, 0, 0, 0);
        x.put(1, 10, 0, 10, 0);
        x.put(2, 90, 90, 90, 90);
        x.put(3, 92, 90, 92, 90);
        x.put(4, 2, 0, 2, 0);
        return x;
    }

    /** With two more points: a court sends 0 and 1 away, they come back, and the leaf is split. */
    private static BoxCourt courted() {
        BoxCourt x = line();
        x.put(5, 4, 0, 4, 0);
        x.put(6, 5, 0, 5, 0);
        return x;
    }

    private static BoxCourt alike(int boxes) {
        BoxCourt x = new BoxCourt();
        for (int box = 0; box < boxes; box++) {
            x.put(box, 7, 7, 7, 7);
        }
        return x;
    }

    /** Leaves {0, 4, 1} from 0 to 10 and {2, 3} from 60 to 70, all 1 high. */
    private static BoxCourt band() {
        BoxCourt x = new BoxCourt();
        int[] at = {0, 10, 60, 70, 5};
        for (int box = 0; box < at.length; box++) {
            x.put(box, at[box], 0, at[box], 1);
        }
        return x;
    }

    private static BoxCourt full() {
        BoxCourt x = new BoxCourt();
        for (int box = 0; box < 31; box++) {
            x.put(box, box, box, box + 2, box + 2);
        }
        return x;
    }

    private static void leaves(String when, BoxCourt x, int... sets) {
        due(when + ": leaves", x.count(3), sets.length);
        for (int i = 0; i < sets.length; i++) {
            due(when + ": leaf " + i, x.nodeOf(0, i, 5), sets[i]);
        }
    }

    private static void newObject() {
        BoxCourt other = courted();
        other.type('+');
        BoxCourt x = new BoxCourt();
        int[] counts = {0, 1, 1, 1, 0, 0, 0, 0, 0, 0, 0};
        for (int what = 0; what < counts.length; what++) {
            due("new: count " + what, x.count(what), counts[what]);
        }
        due("new: root", x.nodeOf(0, 0, 4), 0);
        due("new: root's box", x.nodeOf(0, 0, 0), NOT_FOUND);
        due("new: undo", x.undo(), NOT_POSSIBLE);
        due("new: fault", x.fault(0), NOT_FOUND);
        due("new: text", x.clearText(), 0);
    }

    private static void puts() {
        BoxCourt x = line();
        leaves("line", x, 1 + 2 + 16, 4 + 8);
        due("order by x", x.boxOf(1, 5), 2);
        due("levels", x.put(5, 4, 0, 4, 0), 2);
        leaves("least growth", x, 1 + 2 + 16 + 32, 4 + 8);
        due("put with court", x.put(6, 5, 0, 5, 0), 2);
        leaves("court and split", x, 1 + 16, 2 + 32 + 64, 4 + 8);
        due("second part's order", x.boxOf(5, 5) * 100 + x.boxOf(6, 5) * 10 + x.boxOf(1, 5), 12);

        BoxCourt y = new BoxCourt();
        y.put(0, 0, 0, 99, 0);
        y.put(1, 0, 99, 99, 99);
        y.put(2, 0, 0, 0, 99);
        y.put(3, 99, 0, 99, 99);
        due("levels after a split of the root", y.put(4, 50, 50, 50, 50), 2);
        y.put(5, 60, 60, 60, 60);
        due("of equal growths the least area", y.boxOf(5, 4), 1);

        BoxCourt z = new BoxCourt();
        for (int box = 0; box < 5; box++) {
            z.put(box, 7, 7, 7, 7);
        }
        leaves("equal boxes", z, 3, 28);
        z.put(30, 7, 7, 7, 7);
        due("of equal areas the first one", z.boxOf(30, 4), 0);

        BoxCourt v = new BoxCourt();
        for (int box = 0; box < 5; box++) {
            v.put(box, 0, 20 * box, 9, 20 * box + (box == 1 ? 21 : 1));
        }
        leaves("split by y", v, 7, 24);
    }

    private static void wrongPuts() {
        BoxCourt x = new BoxCourt();
        for (int box : new int[] {-1, 31, MIN, MAX}) {
            due("put of " + box, x.put(box, 0, 0, 0, 0), INVALID);
        }
        for (int[] s : WRONG_SIDES) {
            due("put with wrong sides", x.put(0, s[0], s[1], s[2], s[3]), INVALID);
        }
        due("no change", x.count(8), 0);
        due("put the last box", x.put(30, 0, 0, 99, 99), 1);
        due("put it again", x.put(30, 0, 0, 99, 99), NOT_POSSIBLE);
        due("put it again, wrong", x.put(30, 1, 0, 0, 99), INVALID);
        due("one change", x.count(8), 1);
    }

    private static void takes() {
        BoxCourt x = courted();
        due("take with an orphan", x.take(2), 2);
        due("orphans", x.count(7), 1);
        leaves("orphan", x, 1 + 16, 2 + 8 + 32 + 64);
        due("take with a court", x.take(0), 2);
        leaves("court below a root with one node", x, 16 + 32 + 64, 2 + 8);
        due("courts", x.count(4), 1);
        due("courts so far", x.count(5), 2);
        due("splits so far", x.count(6), 3);
        due("orphans so far", x.count(7), 2);
        due("take in a leaf of three", x.take(6), 2);
        due("no court then", x.count(4), 0);
        due("lower root", x.take(5), 1);
        leaves("lower root", x, 2 + 8 + 16);
        due("take again", x.take(5), NOT_POSSIBLE);
        due("take none", x.take(-1), INVALID);
        due("take beyond", x.take(31), INVALID);
        due("take MIN", x.take(MIN), INVALID);
        x.take(1);
        x.take(3);
        due("last one", x.take(4), 1);
        due("empty root", x.nodeOf(0, 0, 4), 0);
        due("empty root's box", x.nodeOf(0, 0, 3), NOT_FOUND);
        due("empty area", x.count(10), 0);
        due("put after", x.put(4, 1, 2, 3, 4), 1);
    }

    /** A root that comes and goes 150 times must leave nothing behind. */
    private static void rootComesAndGoes() {
        BoxCourt x = new BoxCourt();
        for (int box = 0; box < 4; box++) {
            x.put(box, 7, 7, 7, 7);
        }
        int free = 4;
        for (int round = 0; round < 150; round++) {
            due("round " + round + ": put", x.put(free, 7, 7, 7, 7), 2);
            free = Integer.numberOfTrailingZeros(x.nodeOf(0, 0, 5));
            due("round " + round + ": take", x.take(free), 1);
        }
        due("rounds: boxes", x.count(0), 4);
        due("rounds: orphans", x.count(7), 150);
    }

    private static void boxes() {
        BoxCourt x = courted();
        x.put(7, 95, 91, 97, 94);
        int[] sides = {95, 91, 97, 94, 2, 2};
        for (int what = 0; what < 6; what++) {
            due("boxOf 7 " + what, x.boxOf(7, what), sides[what]);
        }
        due("boxOf 6 4", x.boxOf(6, 4), 1);
        due("boxOf none", x.boxOf(8, 0), NOT_FOUND);
        due("boxOf what", x.boxOf(7, 6), INVALID);
        due("boxOf what -1", x.boxOf(8, -1), INVALID);
        due("boxOf 31", x.boxOf(31, 0), INVALID);
        due("boxOf -1", x.boxOf(-1, 0), INVALID);
    }

    private static void overlapsOfTwo() {
        BoxCourt x = courted();
        x.put(7, 95, 91, 97, 94);
        due("overlap of itself", x.overlap(7, 7), 6);
        x.put(8, 96, 90, 99, 93);
        x.put(9, 97, 94, 98, 99);
        due("overlap", x.overlap(7, 8), 2);
        due("overlap other way", x.overlap(8, 7), 2);
        due("overlap of a corner", x.overlap(7, 9), 0);
        due("overlap of none in common", x.overlap(0, 9), 0);
        due("overlap of one away", x.overlap(7, 10), NOT_FOUND);
        due("overlap of one away, first", x.overlap(10, 7), NOT_FOUND);
        due("overlap of both away", x.overlap(10, 10), NOT_FOUND);
        due("overlap beyond", x.overlap(10, 31), INVALID);
        due("overlap below", x.overlap(-1, 0), INVALID);
        due("overlap with below", x.overlap(0, -1), INVALID);
        due("overlap of beyond", x.overlap(31, 10), INVALID);
    }

    private static void nodes() {
        BoxCourt x = courted();
        int[] second = {4, 0, 10, 0, 3, 98};
        int[] root = {0, 0, 92, 90, 3, 0};
        for (int what = 0; what < 6; what++) {
            due("nodeOf 0 1 " + what, x.nodeOf(0, 1, what), second[what]);
            due("nodeOf 1 0 " + what, x.nodeOf(1, 0, what), root[what]);
        }
        due("no such place", x.nodeOf(0, 3, 4), NOT_FOUND);
        due("no such place above", x.nodeOf(1, 1, 4), NOT_FOUND);
        due("no such level", x.nodeOf(2, 0, 4), NOT_FOUND);
        due("far level", x.nodeOf(MAX, 0, 4), NOT_FOUND);
        due("far place", x.nodeOf(0, MAX, 4), NOT_FOUND);
        due("level -1", x.nodeOf(-1, 0, 4), INVALID);
        due("place -1", x.nodeOf(9, -1, 4), INVALID);
        due("what 6", x.nodeOf(9, 0, 6), INVALID);
        due("what -1", x.nodeOf(0, 0, -1), INVALID);

        BoxCourt z = new BoxCourt();
        for (int box = 0; box < 15; box++) {
            z.put(box, 5, 5, 5, 5);
        }
        due("first node of the second node", z.nodeOf(1, 1, 5), 2);
        due("first node of the root", z.nodeOf(2, 0, 5), 0);
        due("nodes", z.count(2), 8);
        due("leaves", z.count(3), 5);
    }

    private static void sumsOfOverlaps() {
        BoxCourt x = new BoxCourt();
        due("overlaps of an empty root", x.overlaps(0), 0);
        x.put(0, 0, 0, 99, 0);
        x.put(1, 0, 99, 99, 99);
        x.put(2, 0, 0, 0, 99);
        x.put(3, 99, 0, 99, 99);
        due("overlaps of one leaf", x.overlaps(0), 0);
        x.put(4, 50, 50, 50, 50);
        due("overlaps of two leaves", x.overlaps(0), 49 * 99);
        due("overlaps of the root", x.overlaps(1), 0);
        due("overlaps of no level", x.overlaps(2), NOT_FOUND);
        due("overlaps of a far level", x.overlaps(MAX), NOT_FOUND);
        due("overlaps of -1", x.overlaps(-1), INVALID);
        due("overlaps of MIN", x.overlaps(MIN), INVALID);
        due("areas of leaves", x.count(10), 99 * 99 + 49 * 99);
    }

    private static void courts() {
        BoxCourt x = courted();
        due("court's level", x.court(0, 0), 0);
        due("court's boxes", x.court(0, 1), 2);
        due("no second court", x.court(1, 0), NOT_FOUND);
        due("far court", x.court(MAX, 1), NOT_FOUND);
        due("court -1", x.court(-1, 0), INVALID);
        due("court what 2", x.court(9, 2), INVALID);
        due("court what -1", x.court(0, -1), INVALID);
        due("failing calls keep it", x.put(6, 0, 0, 0, 0) + x.count(4), NOT_POSSIBLE + 1);
        x.would(0, 0, 0, 0, 2);
        x.wouldTake(0, 1);
        x.play();
        due("an empty play keeps it", x.count(4), 1);
        x.undo();
        x.undo();
        due("undo keeps it", x.court(0, 1), 2);
        due("undo keeps its count", x.count(4), 1);
        due("but not the courts so far", x.count(5), 0);
        write(x, "+6,5,0,5,0;-2;");
        x.play();
        due("the latest order's courts alone", x.count(4), 0);
        due("courts so far", x.count(5), 1);

        BoxCourt y = alike(23);
        due("first court of two: level", y.court(0, 0), 0);
        due("first court of two: boxes", y.court(0, 1), 2);
        due("second court: level", y.court(1, 0), 1);
        due("second court: boxes of two leaves", y.court(1, 1), 6);
        due("no third court", y.court(2, 0), NOT_FOUND);
        y.put(23, 7, 7, 7, 7);
        due("a put without a court", y.court(0, 0), NOT_FOUND);
    }

    private static void windows() {
        BoxCourt x = new BoxCourt();
        due("empty", x.window(0, 0, 99, 99, 0), 0);
        due("empty root", x.window(0, 0, 99, 99, 1), 0);
        x = courted();
        due("all", x.window(0, 0, 99, 99, 0), 127);
        due("all nodes", x.window(0, 0, 99, 99, 1), 4);
        due("a border", x.window(10, 0, 20, 5, 0), 2);
        due("a border's nodes", x.window(10, 0, 20, 5, 1), 2);
        due("between", x.window(3, 0, 3, 9, 0), 0);
        due("between: the root", x.window(3, 0, 3, 9, 1), 1);
        due("beyond", x.window(93, 0, 99, 99, 1), 0);
        BoxCourt y = new BoxCourt();
        y.put(30, 20, 30, 40, 50);
        due("left border", y.window(0, 0, 20, 99, 0), 1 << 30);
        due("left of it", y.window(0, 0, 19, 99, 0), 0);
        due("right border", y.window(40, 0, 99, 99, 0), 1 << 30);
        due("right of it", y.window(41, 0, 99, 99, 1), 0);
        due("low border", y.window(0, 0, 99, 30, 0), 1 << 30);
        due("below it", y.window(0, 0, 99, 29, 1), 0);
        due("high border", y.window(0, 50, 99, 99, 0), 1 << 30);
        due("above it", y.window(0, 51, 99, 99, 0), 0);
        due("a point in it", y.window(30, 40, 30, 40, 1), 1);
        for (int[] s : WRONG_SIDES) {
            due("window with wrong sides", x.window(s[0], s[1], s[2], s[3], 0), INVALID);
        }
        due("what 2", x.window(0, 0, 0, 0, 2), INVALID);
        due("what -1", x.window(0, 0, 0, 0, -1), INVALID);
    }

    private static void nearestOnes() {
        BoxCourt x = new BoxCourt();
        due("none", x.nearest(0, 0, 0, 0), NOT_FOUND);
        x = courted();
        int[] order = {0, 4, 5, 6, 1, 2, 3};
        int[] squares = {1, 1, 9, 16, 81, 89 * 89 + 8100, 91 * 91 + 8100};
        int[] looked = {2, 2, 3, 3, 3, 4, 4};
        for (int i = 0; i < 7; i++) {
            due("nearest " + i, x.nearest(1, 0, i, 0), order[i]);
            due("nearest " + i + "'s square", x.nearest(1, 0, i, 1), squares[i]);
            due("nearest " + i + "'s nodes", x.nearest(1, 0, i, 2), looked[i]);
        }
        x.put(7, 10, 10, 30, 20);
        due("inside", x.nearest(15, 15, 0, 1), 0);
        due("on the border", x.nearest(30, 20, 0, 1), 0);
        due("right of it", x.nearest(33, 15, 0, 1), 9);
        due("off a corner", x.nearest(33, 24, 0, 1), 25);
        BoxCourt y = new BoxCourt();
        y.put(30, 2, 0, 2, 0);
        y.put(9, 1, 0, 1, 0);
        y.put(0, 2, 0, 2, 0);
        y.put(8, 3, 0, 3, 0);
        int[] row = {9, 0, 30, 8};
        for (int i = 0; i < row.length; i++) {
            due("nearest " + i + " by distance, then by number", y.nearest(0, 0, i, 0), row[i]);
        }
        due("too many", x.nearest(1, 0, 8, 2), NOT_FOUND);
        due("far too many", x.nearest(1, 0, MAX, 0), NOT_FOUND);
        due("x 100", x.nearest(100, 0, 99, 0), INVALID);
        due("y 100", x.nearest(0, 100, 0, 0), INVALID);
        due("x -1", x.nearest(-1, 0, 0, 0), INVALID);
        due("y -1", x.nearest(0, -1, 0, 0), INVALID);
        due("index -1", x.nearest(0, 0, -1, 0), INVALID);
        due("what 3", x.nearest(0, 0, 99, 3), INVALID);
        due("what -1", x.nearest(0, 0, 0, -1), INVALID);
    }

    private static void woulds() {
        BoxCourt x = new BoxCourt();
        int[] first = {0, 0, 0, 1, 0};
        for (int what = 0; what < 5; what++) {
            due("would in an empty tree " + what, x.would(3, 3, 4, 4, what), first[what]);
        }
        x = line();
        x.put(5, 4, 0, 4, 0);
        int[] then = {0, 1, 1, 2, 0};
        for (int what = 0; what < 5; what++) {
            due("would " + what, x.would(5, 0, 5, 0, what), then[what]);
        }
        due("would in the second leaf", x.would(91, 91, 92, 92, 0), 1);
        due("would not be too full", x.would(91, 91, 92, 92, 1), 0);
        due("would changes nothing", x.count(5) * 100 + x.count(8) * 10 + x.count(0), 46);
        for (int[] s : WRONG_SIDES) {
            due("would with wrong sides", x.would(s[0], s[1], s[2], s[3], 0), INVALID);
        }
        due("what 5", x.would(0, 0, 0, 0, 5), INVALID);
        due("what -1", x.would(0, 0, 0, 0, -1), INVALID);

        BoxCourt b = band();
        due("overlap of leaves then", b.would(9, 0, 62, 1, 4), 1);
        due("no overlap of leaves then", b.would(10, 0, 62, 1, 4), 0);
        due("courts at two levels", alike(22).would(7, 7, 7, 7, 2), 2);
        due("a level more", alike(13).would(7, 7, 7, 7, 3), 3);

        BoxCourt f = full();
        due("31 boxes", f.count(0), 31);
        due("would with 31 boxes", f.would(0, 0, 0, 0, 0), NOT_POSSIBLE);
        due("would with 31 boxes, wrong", f.would(0, 0, 0, 0, 5), INVALID);
        f.take(30);
        due("would with 30 boxes", f.would(1, 1, 1, 1, 0), 0);
    }

    private static void wouldTakes() {
        BoxCourt x = courted();
        x.take(2);
        int[] then = {1, 1, 2, 0};
        for (int what = 0; what < 4; what++) {
            due("wouldTake " + what, x.wouldTake(0, what), then[what]);
        }
        due("wouldTake changes nothing", x.count(7) * 100 + x.count(4) * 10 + x.count(0), 106);
        due("no orphan", x.wouldTake(3, 0), 0);
        due("not there", x.wouldTake(2, 0), NOT_FOUND);
        due("not there, wrong", x.wouldTake(2, 4), INVALID);
        due("what -1", x.wouldTake(0, -1), INVALID);
        due("box 31", x.wouldTake(31, 0), INVALID);
        due("box -1", x.wouldTake(-1, 0), INVALID);
        BoxCourt y = line();
        due("lower root", y.wouldTake(3, 2), 1);
        BoxCourt b = band();
        b.put(6, 9, 0, 62, 1);
        due("overlap of leaves now", b.overlaps(0), 1);
        due("overlap of leaves without 6", b.wouldTake(6, 3), 0);
        due("overlap of leaves without 2", b.wouldTake(2, 3), 1);
        BoxCourt z = alike(23);
        z.take(17);
        z.take(18);
        z.take(0);
        due("two orphans", z.wouldTake(1, 0), 2);
    }

    private static void counts() {
        BoxCourt x = courted();
        x.type('+');
        int[] counts = {7, 2, 4, 3, 1, 1, 2, 0, 4, 1, 0};
        for (int what = 0; what < counts.length; what++) {
            due("count " + what, x.count(what), counts[what]);
        }
        due("count 11", x.count(11), INVALID);
        due("count -1", x.count(-1), INVALID);
        due("count MAX", x.count(MAX), INVALID);
    }

    private static void undos() {
        BoxCourt x = courted();
        x.take(2);
        x.take(0);
        write(x, "-1;");
        due("first", x.undo(), 3);
        due("orphans so far", x.count(7), 1);
        due("splits so far", x.count(6), 2);
        due("courts so far", x.count(5), 1);
        leaves("undone", x, 1 + 16, 2 + 8 + 32 + 64);
        due("text stays", x.count(9), 3);
        due("failing calls record nothing", x.take(2) + x.count(8), NOT_POSSIBLE + 3);
        due("second", x.undo(), 2);
        leaves("undone twice", x, 1 + 16, 2 + 32 + 64, 4 + 8);
        due("third", x.undo(), 1);
        due("fourth", x.undo(), 0);
        leaves("undone to the end", x, 1 + 2 + 16, 4 + 8);
        due("fifth", x.undo(), NOT_POSSIBLE);
        x.put(9, 1, 1, 1, 1);
        due("history goes on", x.undo(), 0);
        due("box is away", x.boxOf(9, 0), NOT_FOUND);
    }

    private static void types() {
        BoxCourt x = new BoxCourt();
        due("31", x.type(31), INVALID);
        due("127", x.type(127), INVALID);
        due("MIN", x.type(MIN), INVALID);
        due("32", x.type(32), 1);
        due("126", x.type(126), 2);
        for (int i = 3; i <= 60; i++) {
            due("sign " + i, x.type('0'), i);
        }
        due("sign 61", x.type('0'), LIMIT);
        due("sign 61, wrong", x.type(127), INVALID);
        due("length", x.count(9), 60);
        due("no change", x.count(8), 0);
    }

    private static void clearTexts() {
        BoxCourt x = new BoxCourt();
        due("clearText at first", x.clearText(), 0);
        for (int i = 1; i <= 60; i++) {
            x.type('0');
        }
        due("clearText", x.clearText(), 60);
        due("length", x.count(9), 0);
        due("no fault", x.fault(0), NOT_FOUND);
        due("clearText again", x.clearText(), 0);
        due("type after", x.type('0'), 1);
        due("clearText of one", x.clearText(), 1);
        due("no change", x.count(8), 0);
        x.put(3, 1, 1, 1, 1);
        due("one change", x.clearText() + x.count(8), 1);
    }

    private static void fault(String text, int place, int reason, int cause) {
        BoxCourt x = new BoxCourt();
        x.put(7, 1, 1, 2, 2);
        write(x, text);
        due("fault 0 of " + text, x.fault(0), place);
        due("fault 1 of " + text, x.fault(1), reason);
        due("fault 2 of " + text, x.fault(2), cause);
        due("play of " + text, x.play(), NOT_POSSIBLE);
        due("no change by " + text, x.count(8) * 10 + x.count(0), 11);
        due("text stays: " + text, x.count(9), text.length());
    }

    private static void faults() {
        fault("+", 0, 1, 1);
        fault("-", 0, 1, 1);
        fault(";", 0, 1, 0);
        fault(" -7;", 0, 1, 0);
        fault("-;", 0, 1, 1);
        fault("-7", 0, 1, 2);
        fault("-07", 0, 1, 3);
        fault("-7,", 0, 1, 2);
        fault("-007;", 0, 1, 3);
        fault("-99;", 0, 2, 0);
        fault("-31;", 0, 2, 0);
        fault("-30;", 0, 3, NOT_FOUND);
        fault("-7;-7;", 3, 3, NOT_FOUND);
        fault("-7;+7,1,1,1,1;+07,1,1,1,1;", 14, 3, NOT_FOUND);
        fault("-7;x", 3, 1, 0);
        fault("-7;+8,1,1", 3, 1, 6);
        fault("+8,1,1,1;", 0, 1, 8);
        fault("+8,1,1,1,;", 0, 1, 9);
        fault("+8,1,1,1,1,", 0, 1, 10);
        fault("+8,1,1,1,111;", 0, 1, 11);
        fault("+8,5,6,4,5;", 0, 2, 1);
        fault("+8,5,6,5,5;", 0, 2, 2);
        fault("+31,5,6,4,5;", 0, 2, 0);
        fault("+7,5,6,4,5;", 0, 2, 1);
        fault("+7,5,6,4,5", 0, 1, 10);
        fault("+7,5,5,5,5;", 0, 3, NOT_FOUND);
        BoxCourt x = new BoxCourt();
        due("no text", x.fault(0), NOT_FOUND);
        due("what 3", x.fault(3), INVALID);
        due("what -1", x.fault(-1), INVALID);
        write(x, "+00,00,00,99,99;+1,1,1,1,1;-0;-01;");
        for (int what = 0; what < 3; what++) {
            due("no fault", x.fault(what), NOT_FOUND);
        }
    }

    private static void plays() {
        BoxCourt x = courted();
        due("no orders", x.play(), 0);
        due("are a change", x.undo(), 3);
        write(x, "-2;-00;+8,95,91,97,94;");
        due("orders", x.play(), 3);
        due("text stays", x.count(9), 22);
        due("boxes", x.count(0), 6);
        due("box", x.boxOf(8, 3), 94);
        due("orphans", x.count(7), 2);
        due("courts so far", x.count(5), 2);
        due("one change", x.undo(), 3);
        leaves("undone", x, 1 + 16, 2 + 32 + 64, 4 + 8);
        due("again", x.play(), 3);
        due("and no more", x.play(), NOT_POSSIBLE);
        BoxCourt z = new BoxCourt();
        write(z, "+30,11,22,63,84;");
        due("one order", z.play(), 1);
        due("low x", z.boxOf(30, 0), 11);
        due("low y", z.boxOf(30, 1), 22);
        due("high x", z.boxOf(30, 2), 63);
        due("high y", z.boxOf(30, 3), 84);
        write(z, "");
        due("no text any more", z.play(), 0);
        BoxCourt y = new BoxCourt();
        write(y, "+0,0,0,1,1;+1,1,1,2,2;-0;-1;-1");
        due("not whole", y.play(), NOT_POSSIBLE);
        due("nothing done", y.count(8), 0);
        y.type(';');
        due("out twice", y.fault(1), 3);
    }

    public static void main(String[] args) {
        promise(1);
        newObject();
        promise(2);
        puts();
        wrongPuts();
        promise(3);
        takes();
        rootComesAndGoes();
        promise(4);
        boxes();
        promise(5);
        nodes();
        promise(6);
        sumsOfOverlaps();
        promise(7);
        overlapsOfTwo();
        promise(8);
        courts();
        promise(9);
        windows();
        promise(10);
        nearestOnes();
        promise(11);
        woulds();
        promise(12);
        wouldTakes();
        promise(13);
        counts();
        promise(14);
        undos();
        promise(15);
        types();
        promise(16);
        clearTexts();
        promise(17);
        faults();
        promise(18);
        plays();
        if (promise != PROMISES) {
            wrong++;
            System.out.println("PromisesTest: promises are left out");
        }
        System.out.println(wrong == 0 ? "PromisesTest: all answers are as due" : "PromisesTest: " + wrong + " not as due");
        if (wrong != 0) {
            System.exit(1);
        }
    }
}
