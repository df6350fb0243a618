/** Sentences of "Changes and errors": what a change records, which error comes first, and that errors change nothing. */
public final class ErrorEdgesTest {
    private interface Making {
        BoxCourt make();
    }

    private interface Call {
        int on(BoxCourt x);
    }

    /** Seven boxes, a court just held, four states, and a text of 60 characters that can be played. */
    private static BoxCourt busy() {
        BoxCourt x = Checks.twoLeaves();
        Checks.write(x, "-0;+0,0,0,0,1;-4;+4,5,0,5,1;-2;-3;+3,70,0,70,1;+2,60,0,60,1;");
        Checks.span(x, 5, 6, 6);
        Checks.span(x, 6, 7, 7);
        return x;
    }

    /** As above, but the text has room left. */
    private static BoxCourt ready() {
        BoxCourt x = busy();
        Checks.write(x, "-0;+0,0,0,0,1;+30,1,1,1,1;");
        return x;
    }

    private static BoxCourt withFault() {
        BoxCourt x = busy();
        Checks.write(x, "-0;+0,0,0,0,1;-0;-0;");
        return x;
    }

    private static BoxCourt noState() {
        BoxCourt x = busy();
        Checks.past(x);
        return x;
    }

    private static BoxCourt full() {
        BoxCourt x = Checks.alike(31);
        x.type('+');
        return x;
    }

    /** What can be seen, what can be restored and what the text does: each on an object of its own. */
    private static void changesNothing(String name, Making making, Call call, int answer) {
        BoxCourt x = making.make();
        Checks.due(name, call.on(x), answer);
        Checks.due(name + ": what it left", Checks.view(x), Checks.view(making.make()));
        BoxCourt y = making.make();
        call.on(y);
        Checks.due(name + ": the states it left", Checks.past(y), Checks.past(making.make()));
        BoxCourt z = making.make();
        call.on(z);
        Checks.due(name + ": the text it left", Checks.effect(z), Checks.effect(making.make()));
    }

    private static void invalidRather() {
        Checks.sentence("INVALID_ARGUMENT is returned rather than NOT_POSSIBLE");
        Making busy = ErrorEdgesTest::busy;
        Making full = ErrorEdgesTest::full;
        int error = Checks.INVALID;
        changesNothing("put of a box that is there, low x", busy, x -> x.put(0, -1, 0, 0, 0), error);
        changesNothing("put of a box that is there, low y", busy, x -> x.put(0, 0, -1, 0, 0), error);
        changesNothing("put of a box that is there, high x", busy, x -> x.put(0, 0, 0, 100, 0), error);
        changesNothing("put of a box that is there, high y", busy, x -> x.put(0, 0, 0, 0, 100), error);
        changesNothing("put of a box that is there, low and high x", busy, x -> x.put(0, 1, 0, 0, 0), error);
        changesNothing("put of a box that is there, low and high y", busy, x -> x.put(0, 0, 1, 0, 0), error);
        changesNothing("put of a box that cannot be there", busy, x -> x.put(31, 0, 0, 0, 0), error);
        changesNothing("take of a box that cannot be there", busy, x -> x.take(31), error);
        changesNothing("take of -1", busy, x -> x.take(-1), error);
        changesNothing("would with 31 boxes, what -1", full, x -> x.would(0, 0, 0, 0, -1), error);
        changesNothing("would with 31 boxes, what 5", full, x -> x.would(0, 0, 0, 0, 5), error);
        changesNothing("would with 31 boxes, low x", full, x -> x.would(-1, 0, 0, 0, 0), error);
        changesNothing("would with 31 boxes, low y", full, x -> x.would(0, -1, 0, 0, 0), error);
        changesNothing("would with 31 boxes, high x", full, x -> x.would(0, 0, 100, 0, 0), error);
        changesNothing("would with 31 boxes, high y", full, x -> x.would(0, 0, 0, 100, 0), error);
        changesNothing("would with 31 boxes, low and high x", full, x -> x.would(1, 0, 0, 0, 0), error);
        changesNothing("would with 31 boxes, low and high y", full, x -> x.would(0, 1, 0, 0, 0), error);
    }

    /** No call can be both not possible and without a value, so INVALID_ARGUMENT stands for both. */
    private static void invalidRatherThanNone() {
        Checks.sentence("and NOT_POSSIBLE rather than NOT_FOUND");
        Making busy = ErrorEdgesTest::busy;
        int error = Checks.INVALID;
        changesNothing("boxOf none, what -1", busy, x -> x.boxOf(9, -1), error);
        changesNothing("boxOf none, what 6", busy, x -> x.boxOf(9, 6), error);
        changesNothing("boxOf 31", busy, x -> x.boxOf(31, 0), error);
        changesNothing("boxOf -1", busy, x -> x.boxOf(-1, 6), error);
        changesNothing("nodeOf no level, place -1", busy, x -> x.nodeOf(9, -1, 0), error);
        changesNothing("nodeOf no level, what -1", busy, x -> x.nodeOf(9, 0, -1), error);
        changesNothing("nodeOf no level, what 6", busy, x -> x.nodeOf(9, 0, 6), error);
        changesNothing("nodeOf no place, level -1", busy, x -> x.nodeOf(-1, 9, 0), error);
        changesNothing("nodeOf no place, what 6", busy, x -> x.nodeOf(0, 9, 6), error);
        changesNothing("nodeOf nothing in it, what -1", BoxCourt::new, x -> x.nodeOf(0, 0, -1), error);
        changesNothing("overlaps -1", busy, x -> x.overlaps(-1), error);
        changesNothing("overlap none and 31", busy, x -> x.overlap(9, 31), error);
        changesNothing("overlap 31 and none", busy, x -> x.overlap(31, 9), error);
        changesNothing("overlap none and -1", busy, x -> x.overlap(9, -1), error);
        changesNothing("overlap -1 and none", busy, x -> x.overlap(-1, 9), error);
        changesNothing("court none, what -1", busy, x -> x.court(9, -1), error);
        changesNothing("court none, what 2", busy, x -> x.court(9, 2), error);
        changesNothing("court -1", busy, x -> x.court(-1, 0), error);
        changesNothing("nearest none, x 100", busy, x -> x.nearest(100, 0, 9, 0), error);
        changesNothing("nearest none, x -1", busy, x -> x.nearest(-1, 0, 9, 0), error);
        changesNothing("nearest none, y 100", busy, x -> x.nearest(0, 100, 9, 0), error);
        changesNothing("nearest none, y -1", busy, x -> x.nearest(0, -1, 9, 0), error);
        changesNothing("nearest none, what -1", busy, x -> x.nearest(0, 0, 9, -1), error);
        changesNothing("nearest none, what 3", busy, x -> x.nearest(0, 0, 9, 3), error);
        changesNothing("nearest -1", busy, x -> x.nearest(0, 0, -1, 0), error);
        changesNothing("wouldTake none, what -1", busy, x -> x.wouldTake(9, -1), error);
        changesNothing("wouldTake none, what 4", busy, x -> x.wouldTake(9, 4), error);
        changesNothing("wouldTake 31", busy, x -> x.wouldTake(31, 0), error);
        changesNothing("wouldTake -1", busy, x -> x.wouldTake(-1, 4), error);
        changesNothing("fault none, what -1", ErrorEdgesTest::ready, x -> x.fault(-1), error);
        changesNothing("fault none, what 3", ErrorEdgesTest::ready, x -> x.fault(3), error);
        changesNothing("fault of reason 3, what 3", ErrorEdgesTest::withFault, x -> x.fault(3), error);
    }

    private static void otherErrors() {
        Checks.sentence("A call that returns an error changes nothing.");
        Making busy = ErrorEdgesTest::busy;
        changesNothing("put", busy, x -> x.put(3, 1, 1, 2, 2), Checks.NOT_POSSIBLE);
        changesNothing("take", busy, x -> x.take(9), Checks.NOT_POSSIBLE);
        changesNothing("boxOf", busy, x -> x.boxOf(9, 0), Checks.NOT_FOUND);
        changesNothing("nodeOf", busy, x -> x.nodeOf(0, 3, 0), Checks.NOT_FOUND);
        changesNothing("nodeOf with nothing in it", BoxCourt::new, x -> x.nodeOf(0, 0, 3), Checks.NOT_FOUND);
        changesNothing("overlaps", busy, x -> x.overlaps(2), Checks.NOT_FOUND);
        changesNothing("overlap", busy, x -> x.overlap(0, 9), Checks.NOT_FOUND);
        changesNothing("court", busy, x -> x.court(1, 0), Checks.NOT_FOUND);
        changesNothing("window, 31", busy, x -> x.window(0, 0, 100, 99, 0), Checks.INVALID);
        changesNothing("window, what", busy, x -> x.window(0, 0, 99, 99, 2), Checks.INVALID);
        changesNothing("nearest", busy, x -> x.nearest(0, 0, 7, 0), Checks.NOT_FOUND);
        changesNothing("would", ErrorEdgesTest::full, x -> x.would(7, 7, 7, 7, 2), Checks.NOT_POSSIBLE);
        changesNothing("would, what", busy, x -> x.would(7, 0, 7, 1, 5), Checks.INVALID);
        changesNothing("wouldTake", busy, x -> x.wouldTake(9, 1), Checks.NOT_FOUND);
        changesNothing("count", busy, x -> x.count(11), Checks.INVALID);
        changesNothing("undo", ErrorEdgesTest::noState, BoxCourt::undo, Checks.NOT_POSSIBLE);
        changesNothing("undo of a new object", BoxCourt::new, BoxCourt::undo, Checks.NOT_POSSIBLE);
        changesNothing("type with no room", busy, x -> x.type(';'), Checks.LIMIT);
        changesNothing("type with no room, 127", busy, x -> x.type(127), Checks.INVALID);
        changesNothing("type, 31", ErrorEdgesTest::ready, x -> x.type(31), Checks.INVALID);
        changesNothing("fault", ErrorEdgesTest::ready, x -> x.fault(0), Checks.NOT_FOUND);
        changesNothing("fault, 2 of the reason 3", ErrorEdgesTest::withFault, x -> x.fault(2), Checks.NOT_FOUND);
        changesNothing("play", ErrorEdgesTest::withFault, BoxCourt::play, Checks.NOT_POSSIBLE);
        changesNothing("play of half an order", ErrorEdgesTest::full, BoxCourt::play, Checks.NOT_POSSIBLE);
    }

    /** Calls that only look leave all as it is, too. */
    private static void looks() {
        Checks.sentence("The changes are the calls of put, take and play that return no error.");
        Call[] looks = {x -> x.boxOf(0, 4), x -> x.nodeOf(1, 0, 5), x -> x.overlaps(0), x -> x.overlap(0, 1),
            x -> x.court(0, 1), x -> x.window(0, 0, 99, 99, 1), x -> x.nearest(9, 9, 6, 2),
            x -> x.would(7, 0, 7, 1, 0), x -> x.would(7, 0, 7, 1, 1), x -> x.would(7, 0, 7, 1, 2),
            x -> x.would(7, 0, 7, 1, 3), x -> x.would(7, 0, 7, 1, 4), x -> x.wouldTake(2, 0), x -> x.wouldTake(2, 1),
            x -> x.wouldTake(2, 2), x -> x.wouldTake(2, 3), x -> x.count(10), x -> x.fault(0)};
        for (int i = 0; i < looks.length; i++) {
            changesNothing("look " + i, ErrorEdgesTest::busy, looks[i], looks[i].on(busy()));
        }
        BoxCourt x = new BoxCourt();
        Checks.due("put: states", x.put(0, 1, 1, 1, 1) * 10 + x.count(8), 11);
        Checks.due("take: states", x.take(0) * 10 + x.count(8), 12);
        Checks.due("play: states", x.play() * 10 + x.count(8), 3);
        x.type('-');
        x.clearText();
        Checks.due("type and clearText: states", x.count(8), 3);
        Checks.due("undo: states", x.undo() * 10 + x.count(8), 22);
    }

    private static void history() {
        for (int changes = 1; changes <= 6; changes++) {
            BoxCourt x = Checks.alike(changes);
            int states = Math.min(4, changes);
            Checks.sentence("each change records everything before it but the text, and if there are 5 states then, the "
                    + "oldest one is dropped.");
            Checks.due(changes + " changes: states", x.count(8), states);
            for (int left = states - 1; left >= 0; left--) {
                Checks.sentence("Restores the latest state of the history, which is removed from it.");
                int answer = x.undo();
                Checks.due(changes + " changes: boxes", x.count(0), changes - states + left);
                Checks.due(changes + " changes: states", x.count(8), left);
                Checks.sentence("Returns the number of states that are left in the history; NOT_POSSIBLE if it is empty.");
                Checks.due(changes + " changes: undo", answer, left);
            }
            Checks.due(changes + " changes: undo of none", x.undo(), Checks.NOT_POSSIBLE);
            Checks.due(changes + " changes: boxes left", x.count(0), changes - states);
        }
        historyGoesOn();
        everythingButText();
    }

    private static void historyGoesOn() {
        BoxCourt x = new BoxCourt();
        for (int round = 0; round < 20; round++) {
            x.put(round, round, 1, round, 1);
            x.put(30, 99, 1, 99, 1);
            Checks.due("round " + round + ": states", x.count(8), Math.min(4, round + 2));
            Checks.due("round " + round + ": undo", x.undo(), Math.min(4, round + 2) - 1);
            Checks.due("round " + round + ": boxes", x.count(0), round + 1);
            Checks.due("round " + round + ": box 30", x.boxOf(30, 0), Checks.NOT_FOUND);
        }
    }

    private static void everythingButText() {
        Checks.sentence("each change records everything before it but the text");
        BoxCourt x = Checks.alike(22);
        Checks.write(x, "-1;");
        x.put(22, 7, 7, 7, 7);
        Checks.write(x, "-20;-30");
        Checks.due("undo", x.undo(), 3);
        Checks.due("text", x.count(9), 7);
        Checks.due("courts, splits, orphans so far", x.count(5) + " " + x.count(6) + " " + x.count(7), "5 7 0");
        Checks.due("tree", Checks.tree(x), "[[[0 1 20 21][17 18 19][14 15 16][11 12 13]][[8 9 10][5 6 7][2 3 4]]]");
        Checks.due("put anew", x.put(22, 7, 7, 7, 7), 3);
        Checks.due("put anew: so far", x.count(5) + " " + x.count(6) + " " + x.count(7), "7 9 0");

        BoxCourt y = Checks.twoLeaves();
        y.take(2);
        Checks.due("orphans so far", y.count(7), 1);
        Checks.due("undo", y.undo(), 3);
        Checks.due("orphans so far, restored", y.count(7), 0);
        Checks.due("tree", Checks.tree(y), "[[0 4 1][2 3]]");
        Checks.due("levels", y.count(1), 2);
    }

    private static void lastCall() {
        Checks.sentence("An object is used for at most 512 calls after it has been made");
        BoxCourt x = Checks.alike(31);
        for (int call = 32; call < 512; call += 2) {
            int box = call / 2 % 31;
            Checks.due("take, call " + call, x.take(box) > 0 ? 1 : 0, 1);
            Checks.due("put, call " + (call + 1), x.put(box, 7, 7, 7, 7) > 0 ? 1 : 0, 1);
        }
        Checks.due("count, call 512", x.count(0), 31);
        BoxCourt y = new BoxCourt();
        for (int call = 1; call <= 512; call++) {
            Checks.due("type, call " + call, y.type('0'), call <= 60 ? call : Checks.LIMIT);
        }
        BoxCourt z = new BoxCourt();
        for (int call = 1; call <= 511; call++) {
            z.play();
        }
        Checks.due("undo, call 512", z.undo(), 3);
    }

    /** All arguments out of these: an argument that is out of range is the error, whatever the others are. */
    private static void anyArguments() {
        Checks.sentence("INVALID_ARGUMENT if an argument is out of range");
        int[] any = {Checks.MIN, -1, 0, 30, 31, 99, 100, Checks.MAX};
        int[] a = new int[5];
        BoxCourt x = busy();
        for (int all = 0; all < 8 * 8 * 8 * 8 * 8; all++) {
            for (int i = 0; i < a.length; i++) {
                a[i] = any[all >> 3 * i & 7];
            }
            if (all % 128 == 0) {
                x = busy();
            }
            boolean isWindow = isPoint(a[0]) && isPoint(a[1]) && isPoint(a[2]) && isPoint(a[3]) && a[0] <= a[2]
                    && a[1] <= a[3];
            String call = a[0] + ", " + a[1] + ", " + a[2] + ", " + a[3] + ", " + a[4];
            invalid("window(" + call + ")", x.window(a[0], a[1], a[2], a[3], a[4]), isWindow && a[4] == 0);
            invalid("would(" + call + ")", x.would(a[0], a[1], a[2], a[3], a[4]), isWindow && a[4] == 0);
            invalid("put(" + a[4] + ", " + call + ")", x.put(a[4], a[0], a[1], a[2], a[3]),
                    isWindow && a[4] >= 0 && a[4] <= 30);
        }
    }

    private static void fewerArguments() {
        int[] any = {Checks.MIN, -1, 0, 30, 31, 99, 100, Checks.MAX};
        for (int a : any) {
            BoxCourt x = busy();
            invalid("take(" + a + ")", x.take(a), a >= 0 && a <= 30);
            invalid("overlaps(" + a + ")", x.overlaps(a), a >= 0);
            invalid("count(" + a + ")", x.count(a), a == 0);
            invalid("type(" + a + ")", x.type(a), a >= 32 && a <= 126);
            invalid("fault(" + a + ")", x.fault(a), a == 0);
            for (int b : any) {
                invalid("boxOf(" + a + ", " + b + ")", x.boxOf(a, b), a >= 0 && a <= 30 && b == 0);
                invalid("overlap(" + a + ", " + b + ")", x.overlap(a, b), a >= 0 && a <= 30 && b >= 0 && b <= 30);
                invalid("court(" + a + ", " + b + ")", x.court(a, b), a >= 0 && b == 0);
                invalid("wouldTake(" + a + ", " + b + ")", x.wouldTake(a, b), a >= 0 && a <= 30 && b == 0);
                BoxCourt y = busy();
                for (int c : any) {
                    invalid("nodeOf(" + a + ", " + b + ", " + c + ")", y.nodeOf(a, b, c), a >= 0 && b >= 0 && c == 0);
                    for (int d : any) {
                        invalid("nearest(" + a + ", " + b + ", " + c + ", " + d + ")", y.nearest(a, b, c, d),
                                isPoint(a) && isPoint(b) && c >= 0 && d == 0);
                    }
                }
            }
        }
    }

    private static boolean isPoint(int coordinate) {
        return coordinate >= 0 && coordinate <= 99;
    }

    private static void invalid(String call, int answer, boolean isInRange) {
        Checks.due(call, answer == Checks.INVALID ? 0 : 1, isInRange ? 1 : 0);
    }

    private static void constants() {
        Checks.sentence("The constants");
        Checks.due("INVALID_ARGUMENT", BoxCourt.INVALID_ARGUMENT, Checks.INVALID);
        Checks.due("NOT_POSSIBLE", BoxCourt.NOT_POSSIBLE, Checks.NOT_POSSIBLE);
        Checks.due("LIMIT_REACHED", BoxCourt.LIMIT_REACHED, Checks.LIMIT);
        Checks.due("NOT_FOUND", BoxCourt.NOT_FOUND, Checks.NOT_FOUND);
    }

    public static void main(String[] args) {
        invalidRather();
        invalidRatherThanNone();
        otherErrors();
        looks();
        history();
        lastCall();
        anyArguments();
        fewerArguments();
        constants();
        Checks.end("ErrorEdgesTest");
    }
}
