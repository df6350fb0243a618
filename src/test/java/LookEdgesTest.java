/** Sentences of "Boxes" and "Looking" and of the promises 1 to 13, at their edges and just beyond. */
public final class LookEdgesTest {
    private static final int[] ALL = {0, 0, 99, 99};

    private static void points() {
        Checks.sentence("Points have coordinates x and y, 0 to 99 each.");
        BoxCourt x = new BoxCourt();
        Checks.due("all points", x.put(0, 0, 0, 99, 99), 1);
        Checks.due("the first point", x.put(1, 0, 0, 0, 0), 1);
        Checks.due("the last point", x.put(2, 99, 99, 99, 99), 1);
        int[] beyond = {-1, 100, Checks.MIN, Checks.MAX};
        for (int side = 0; side < 4; side++) {
            for (int out : beyond) {
                int[] b = ALL.clone();
                b[side] = out;
                Checks.due("put, side " + side + " at " + out, x.put(3, b[0], b[1], b[2], b[3]), Checks.INVALID);
                Checks.due("window, side " + side + " at " + out, x.window(b[0], b[1], b[2], b[3], 0), Checks.INVALID);
                Checks.due("would, side " + side + " at " + out, x.would(b[0], b[1], b[2], b[3], 0), Checks.INVALID);
            }
        }
        for (int out : beyond) {
            Checks.due("nearest, x " + out, x.nearest(out, 0, 0, 0), Checks.INVALID);
            Checks.due("nearest, y " + out, x.nearest(0, out, 0, 0), Checks.INVALID);
        }
        Checks.due("nearest, 0 and 99", x.nearest(0, 99, 0, 1), 0);
        Checks.due("nearest, 99 and 0", x.nearest(99, 0, 0, 1), 0);
        Checks.due("boxes", x.count(0), 3);
    }

    private static void numbers() {
        Checks.sentence("A box has a number, 0 to 30");
        BoxCourt x = new BoxCourt();
        Checks.due("put 0", x.put(0, 1, 1, 1, 1), 1);
        Checks.due("put 30", x.put(30, 1, 1, 1, 1), 1);
        Checks.due("set", x.nodeOf(0, 0, 5), 1 | 1 << 30);
        Checks.due("overlap 0 30", x.overlap(0, 30), 0);
        Checks.due("wouldTake 30", x.wouldTake(30, 0), 0);
        for (int out : new int[] {-1, 31, 32, Checks.MIN, Checks.MAX}) {
            Checks.due("put " + out, x.put(out, 1, 1, 1, 1), Checks.INVALID);
            Checks.due("take " + out, x.take(out), Checks.INVALID);
            Checks.due("boxOf " + out, x.boxOf(out, 0), Checks.INVALID);
            Checks.due("overlap of " + out, x.overlap(out, 0), Checks.INVALID);
            Checks.due("overlap with " + out, x.overlap(0, out), Checks.INVALID);
            Checks.due("wouldTake " + out, x.wouldTake(out, 0), Checks.INVALID);
        }
        Checks.due("take 30", x.take(30), 1);
        Checks.due("take 0", x.take(0), 1);
    }

    private static void lowAndHigh() {
        Checks.sentence("(low ones are at most high ones)");
        BoxCourt x = new BoxCourt();
        Checks.due("put, low x by one too great", x.put(0, 6, 5, 5, 5), Checks.INVALID);
        Checks.due("put, low y by one too great", x.put(0, 5, 6, 5, 5), Checks.INVALID);
        Checks.due("put, low ones as high ones", x.put(0, 5, 5, 5, 5), 1);
        Checks.due("window, low x by one too great", x.window(6, 5, 5, 5, 0), Checks.INVALID);
        Checks.due("window, low y by one too great", x.window(5, 6, 5, 5, 0), Checks.INVALID);
        Checks.due("window, low ones as high ones", x.window(5, 5, 5, 5, 0), 1);
        Checks.due("would, low x by one too great", x.would(6, 5, 5, 5, 0), Checks.INVALID);
        Checks.due("would, low y by one too great", x.would(5, 6, 5, 5, 0), Checks.INVALID);
        Checks.due("would, low ones as high ones", x.would(5, 5, 5, 5, 0), 0);
    }

    private static void borders() {
        Checks.sentence("all points within, the borders with them, are of the box");
        BoxCourt x = new BoxCourt();
        x.put(0, 20, 30, 40, 50);
        Checks.due("left border", x.window(0, 40, 20, 40, 0), 1);
        Checks.due("left of it", x.window(0, 40, 19, 40, 0), 0);
        Checks.due("right border", x.window(40, 40, 99, 40, 0), 1);
        Checks.due("right of it", x.window(41, 40, 99, 40, 0), 0);
        Checks.due("low border", x.window(30, 0, 30, 30, 0), 1);
        Checks.due("below it", x.window(30, 0, 30, 29, 0), 0);
        Checks.due("high border", x.window(30, 50, 30, 99, 0), 1);
        Checks.due("above it", x.window(30, 51, 30, 99, 0), 0);
        Checks.due("a corner", x.window(40, 50, 99, 99, 0), 1);
        Checks.due("off a corner, in y", x.window(40, 51, 99, 99, 0), 0);
        Checks.due("off a corner, in x", x.window(0, 0, 19, 30, 0), 0);
        Checks.due("within", x.window(30, 40, 30, 40, 0), 1);
        Checks.due("around", x.window(0, 0, 99, 99, 0), 1);
    }

    private static void areas() {
        Checks.sentence("Its area is (high x - low x) * (high y - low y)");
        int[][] boxes = {{5, 5, 5, 5}, {0, 5, 99, 5}, {5, 0, 5, 99}, {5, 5, 6, 6}, {5, 5, 7, 8}, {0, 0, 99, 99}};
        int[] areas = {0, 0, 0, 1, 6, 9801};
        for (int i = 0; i < boxes.length; i++) {
            int[] b = boxes[i];
            BoxCourt x = new BoxCourt();
            x.put(0, b[0], b[1], b[2], b[3]);
            Checks.due("area " + i, x.count(10), areas[i]);
            Checks.due("overlap with itself " + i, x.overlap(0, 0), areas[i]);
        }
    }

    private static void overlapOf(String call, int want, int[] a, int[] b) {
        BoxCourt x = new BoxCourt();
        x.put(0, a[0], a[1], a[2], a[3]);
        x.put(30, b[0], b[1], b[2], b[3]);
        Checks.due(call, x.overlap(0, 30), want);
        Checks.due(call + ", the other way", x.overlap(30, 0), want);
    }

    private static void overlapsOfTwo() {
        Checks.sentence("their overlap (0 if they have nothing in common, or only borders)");
        int[] a = {20, 20, 40, 40};
        overlapOf("nothing in x", 0, a, new int[] {41, 20, 60, 40});
        overlapOf("a border in x", 0, a, new int[] {40, 20, 60, 40});
        overlapOf("1 in x", 20, a, new int[] {39, 20, 60, 40});
        overlapOf("nothing in y", 0, a, new int[] {20, 41, 40, 60});
        overlapOf("a border in y", 0, a, new int[] {20, 40, 40, 60});
        overlapOf("1 in y", 20, a, new int[] {20, 39, 40, 60});
        overlapOf("a corner", 0, a, new int[] {40, 40, 60, 60});
        overlapOf("1 at a corner", 1, a, new int[] {39, 39, 60, 60});
        overlapOf("nothing in x nor y", 0, a, new int[] {50, 60, 70, 70});
        overlapOf("within", 4, a, new int[] {30, 30, 32, 32});
        overlapOf("across", 40, a, new int[] {30, 0, 32, 99});
        overlapOf("a line across", 0, a, new int[] {30, 0, 30, 99});

        Checks.sentence("NOT_FOUND if one of them is not there");
        BoxCourt x = new BoxCourt();
        x.put(0, 1, 1, 9, 9);
        Checks.due("both there", x.overlap(0, 0), 64);
        Checks.due("the first one", x.overlap(1, 0), Checks.NOT_FOUND);
        Checks.due("the other one", x.overlap(0, 1), Checks.NOT_FOUND);
        Checks.due("both", x.overlap(1, 1), Checks.NOT_FOUND);
    }

    private static void boxAround() {
        Checks.sentence("The box around some boxes is the least one that has all their points.");
        BoxCourt x = new BoxCourt();
        x.put(0, 20, 30, 40, 50);
        Checks.due("one box", Checks.frame(x, 0, 0), "20 30 40 50");
        x.put(1, 21, 31, 39, 49);
        Checks.due("one within", Checks.frame(x, 0, 0), "20 30 40 50");
        x.put(2, 19, 31, 39, 51);
        Checks.due("by one more", Checks.frame(x, 0, 0), "19 30 40 51");
        x.put(3, 21, 29, 41, 49);
        Checks.due("by one more on all sides", Checks.frame(x, 0, 0), "19 29 41 51");
        x.take(2);
        Checks.due("less again", Checks.frame(x, 0, 0), "20 29 41 50");
        BoxCourt y = Checks.twoLeaves();
        Checks.due("around nodes", Checks.frame(y, 1, 0), "0 0 70 1");
        y.take(3);
        Checks.due("around a leaf", Checks.frame(y, 0, 0), "0 0 60 1");
    }

    private static void putAndTake() {
        Checks.sentence("NOT_POSSIBLE if there is a box with this number.");
        BoxCourt x = new BoxCourt();
        Checks.due("none there", x.put(5, 1, 1, 2, 2), 1);
        Checks.due("one there", x.put(5, 1, 1, 2, 2), Checks.NOT_POSSIBLE);
        Checks.sentence("NOT_POSSIBLE if there is none with this number.");
        Checks.due("another one", x.take(4), Checks.NOT_POSSIBLE);
        Checks.due("one there", x.take(5), 1);
        Checks.due("none there", x.take(5), Checks.NOT_POSSIBLE);
        Checks.due("put anew", x.put(5, 1, 1, 2, 2), 1);
        Checks.sentence("Returns how many levels the tree has then");
        int[] levels = {1, 1, 1, 1, 2, 2, 2, 2, 2, 2, 2, 2, 2, 3};
        BoxCourt y = new BoxCourt();
        for (int box = 0; box < levels.length; box++) {
            Checks.due("put " + box, y.put(box, 7, 7, 7, 7), levels[box]);
        }
    }

    private static void boxOf() {
        BoxCourt x = Checks.alike(7);
        Checks.sentence("4: the place of its leaf (see nodeOf); 5: its place in the row of this leaf");
        Checks.due("rows", x.nodeOf(0, 0, 5) * 128 + x.nodeOf(0, 1, 5), (1 + 2 + 32 + 64) * 128 + 4 + 8 + 16);
        Checks.due("first leaf, first place", x.boxOf(0, 4) * 10 + x.boxOf(0, 5), 0);
        Checks.due("first leaf, last place", x.boxOf(6, 4) * 10 + x.boxOf(6, 5), 3);
        Checks.due("last leaf, first place", x.boxOf(2, 4) * 10 + x.boxOf(2, 5), 10);
        Checks.due("last leaf, last place", x.boxOf(4, 4) * 10 + x.boxOf(4, 5), 12);
        x.put(9, 1, 2, 3, 4);
        Checks.sentence("`what`: 0: low x; 1: low y; 2: high x; 3: high y");
        for (int what = 0; what < 4; what++) {
            Checks.due("boxOf(9, " + what + ")", x.boxOf(9, what), what + 1);
        }
        for (int what : new int[] {-1, 6, Checks.MIN, Checks.MAX}) {
            Checks.due("boxOf(9, " + what + ")", x.boxOf(9, what), Checks.INVALID);
        }
        Checks.sentence("NOT_FOUND if there is no such box.");
        for (int what = 0; what < 6; what++) {
            Checks.due("boxOf(10, " + what + ")", x.boxOf(10, what), Checks.NOT_FOUND);
        }
    }

    private static void nodeOf() {
        BoxCourt x = Checks.alike(14);
        Checks.sentence("the way they stand in the rows of the level above, those of an earlier node ahead of those of a "
                + "later one");
        Checks.due("tree", Checks.tree(x), "[[[0 1][11 12 13]][[8 9 10][5 6 7][2 3 4]]]");
        int[] sets = {3, 7 << 11, 7 << 8, 7 << 5, 7 << 2};
        for (int place = 0; place < sets.length; place++) {
            Checks.due("leaf " + place, x.nodeOf(0, place, 5), sets[place]);
        }
        Checks.sentence("4: how many things it has; 5: for a leaf the set of its boxes, for another node the place of its "
                + "first node");
        Checks.due("things of the first leaf", x.nodeOf(0, 0, 4), 2);
        Checks.due("things of the last leaf", x.nodeOf(0, 4, 4), 3);
        Checks.due("things of the second node", x.nodeOf(1, 1, 4), 3);
        Checks.due("things of the root", x.nodeOf(2, 0, 4), 2);
        Checks.due("first node of the first one", x.nodeOf(1, 0, 5), 0);
        Checks.due("first node of the second one", x.nodeOf(1, 1, 5), 2);
        Checks.due("first node of the root", x.nodeOf(2, 0, 5), 0);
        Checks.sentence("NOT_FOUND if there is no such node, or it has nothing (for 0 to 3).");
        int[][] there = {{0, 4}, {1, 1}, {2, 0}};
        for (int[] last : there) {
            Checks.due("last of level " + last[0], x.nodeOf(last[0], last[1], 0), 7);
            Checks.due("after the last of level " + last[0], x.nodeOf(last[0], last[1] + 1, 0), Checks.NOT_FOUND);
            Checks.due("far after it", x.nodeOf(last[0], Checks.MAX, 0), Checks.NOT_FOUND);
        }
        Checks.due("above the root", x.nodeOf(3, 0, 4), Checks.NOT_FOUND);
        Checks.due("far above the root", x.nodeOf(Checks.MAX, 0, 4), Checks.NOT_FOUND);
        BoxCourt y = new BoxCourt();
        for (int what = 0; what < 4; what++) {
            Checks.due("nothing in it: " + what, y.nodeOf(0, 0, what), Checks.NOT_FOUND);
        }
        Checks.due("nothing in it: 4", y.nodeOf(0, 0, 4), 0);
        Checks.due("nothing in it: 5", y.nodeOf(0, 0, 5), 0);
        y.put(3, 1, 2, 3, 4);
        Checks.due("one in it", Checks.frame(y, 0, 0), "1 2 3 4");
        y.take(3);
        Checks.due("nothing in it again", y.nodeOf(0, 0, 2), Checks.NOT_FOUND);
        Checks.sentence("`level`: 0 or more");
        Checks.due("level -1", x.nodeOf(-1, 0, 4), Checks.INVALID);
        Checks.due("level MIN", x.nodeOf(Checks.MIN, 0, 4), Checks.INVALID);
        Checks.sentence("`place`: 0 or more");
        Checks.due("place -1", x.nodeOf(0, -1, 4), Checks.INVALID);
        Checks.due("place MIN", x.nodeOf(0, Checks.MIN, 4), Checks.INVALID);
        Checks.sentence("INVALID_ARGUMENT if an argument is out of range");
        Checks.due("what -1", x.nodeOf(0, 0, -1), Checks.INVALID);
        Checks.due("what 6", x.nodeOf(0, 0, 6), Checks.INVALID);
    }

    private static void overlaps() {
        Checks.sentence("Returns the sum of the overlaps of each two nodes of a level.");
        BoxCourt x = new BoxCourt();
        Checks.due("the empty root", x.overlaps(0), 0);
        x.put(0, 0, 0, 99, 0);
        x.put(1, 0, 99, 99, 99);
        x.put(2, 0, 0, 0, 99);
        x.put(3, 99, 0, 99, 99);
        Checks.due("the root alone", x.overlaps(0), 0);
        x.put(4, 50, 50, 50, 50);
        Checks.due("two leaves", x.overlaps(0), 49 * 99);
        BoxCourt all = new BoxCourt();
        for (int box = 0; box < 8; box++) {
            all.put(box, 0, 0, 99, 99);
        }
        Checks.due("three leaves", all.overlaps(0), 3 * 9801);
        Checks.sentence("NOT_FOUND if there is no such level.");
        Checks.due("the root's level", x.overlaps(1), 0);
        Checks.due("above the root's level", x.overlaps(2), Checks.NOT_FOUND);
        Checks.due("far above", x.overlaps(Checks.MAX), Checks.NOT_FOUND);
        Checks.sentence("INVALID_ARGUMENT if level is negative");
        Checks.due("-1", x.overlaps(-1), Checks.INVALID);
        Checks.due("MIN", x.overlaps(Checks.MIN), Checks.INVALID);
    }

    private static void court() {
        Checks.sentence("1: how many boxes were in, or below, both things that were taken out");
        BoxCourt x = Checks.alike(23);
        Checks.due("of a leaf, of a node", Checks.courts(x), "0:2 1:6");
        Checks.sentence("NOT_FOUND if there were not so many courts.");
        Checks.due("the last one", x.court(1, 0), 1);
        Checks.due("after it", x.court(2, 0), Checks.NOT_FOUND);
        Checks.due("after it, 1", x.court(2, 1), Checks.NOT_FOUND);
        Checks.due("far after it", x.court(Checks.MAX, 1), Checks.NOT_FOUND);
        Checks.due("in a new object", new BoxCourt().court(0, 0), Checks.NOT_FOUND);
        Checks.sentence("INVALID_ARGUMENT if an argument is out of range or negative");
        Checks.due("index -1", x.court(-1, 0), Checks.INVALID);
        Checks.due("index MIN", x.court(Checks.MIN, 0), Checks.INVALID);
        Checks.due("what -1", x.court(0, -1), Checks.INVALID);
        Checks.due("what 2", x.court(0, 2), Checks.INVALID);
        Checks.sentence("Returns a court of the latest put(), take() or order of a text that put or took a box out");
        x.put(23, 7, 7, 7, 7);
        Checks.due("a put without a court", Checks.courts(x), "");
        BoxCourt y = Checks.alike(23);
        y.take(22);
        Checks.due("a take without a court", Checks.courts(y), "");
        BoxCourt z = Checks.alike(23);
        Checks.write(z, "-22;");
        Checks.due("only typed", Checks.courts(z), "0:2 1:6");
        z.play();
        Checks.due("an order without a court", Checks.courts(z), "");
        courtOfOrders();
    }

    private static void courtOfOrders() {
        BoxCourt x = Checks.alike(22);
        Checks.write(x, "-21;+21,7,7,7,7;+22,7,7,7,7;");
        x.play();
        Checks.due("the last order has courts", Checks.courts(x), "0:2 1:6");
        Checks.write(x, "");
        x.play();
        Checks.due("no order after it", Checks.courts(x), "0:2 1:6");
        BoxCourt y = Checks.alike(22);
        Checks.write(y, "+22,7,7,7,7;-22;");
        y.play();
        Checks.due("the last order but one has courts", Checks.courts(y), "");
        Checks.due("they are counted", y.count(4) * 100 + y.count(5), 7);
        Checks.sentence("(which undo() does not change back)");
        BoxCourt z = Checks.alike(23);
        z.undo();
        Checks.due("undo", Checks.courts(z), "0:2 1:6");
        Checks.due("undo: count(4)", z.count(4), 2);
        z.take(5);
        z.undo();
        Checks.due("undo of a take without a court", Checks.courts(z), "");
    }

    private static void window() {
        Checks.sentence("An empty root is never looked into.");
        BoxCourt x = new BoxCourt();
        Checks.due("window", x.window(0, 0, 99, 99, 1), 0);
        Checks.due("window, boxes", x.window(0, 0, 99, 99, 0), 0);
        x.put(0, 7, 7, 7, 7);
        Checks.due("window with a box", x.window(0, 0, 99, 99, 1), 1);
        x.take(0);
        Checks.due("window, empty again", x.window(0, 0, 99, 99, 1), 0);

        Checks.sentence("A node has to be looked into for a window (a box) if its box and the window have a point in "
                + "common");
        x = Checks.twoLeaves();
        Checks.due("both leaves' borders", x.window(10, 1, 60, 9, 1), 3);
        Checks.due("the first one's border", x.window(10, 1, 59, 9, 1), 2);
        Checks.due("the second one's border", x.window(11, 1, 60, 9, 1), 2);
        Checks.due("between them", x.window(11, 0, 59, 1, 1), 1);
        Checks.due("above them", x.window(0, 2, 99, 99, 1), 0);
        Checks.due("right of them, a border", x.window(70, 0, 99, 99, 1), 2);
        Checks.due("right of them", x.window(71, 0, 99, 99, 1), 0);
        Checks.sentence("0: the set of boxes that have a point in common with it");
        Checks.due("a border of box 1", x.window(10, 1, 59, 9, 0), 1 << 1);
        Checks.due("a border of box 2", x.window(11, 1, 60, 9, 0), 1 << 2);
        Checks.due("borders of both", x.window(10, 1, 60, 9, 0), 1 << 1 | 1 << 2);
        Checks.due("between boxes of a leaf", x.window(6, 0, 9, 1, 0), 0);
        Checks.due("all", x.window(0, 0, 99, 99, 0), 31);
        Checks.due("all of 31", Checks.alike(31).window(7, 7, 7, 7, 0), Checks.MAX);
        Checks.sentence("INVALID_ARGUMENT if an argument is out of range");
        Checks.due("what -1", x.window(0, 0, 9, 9, -1), Checks.INVALID);
        Checks.due("what 2", x.window(0, 0, 9, 9, 2), Checks.INVALID);
    }

    private static void distances() {
        Checks.sentence("The distance of a box (or of the box of a node) and a point is told as its square: 0 if the "
                + "point is in the box.");
        BoxCourt x = new BoxCourt();
        x.put(0, 20, 30, 40, 50);
        int[][] at = {{30, 40, 0}, {20, 40, 0}, {19, 40, 1}, {40, 40, 0}, {41, 40, 1}, {30, 30, 0}, {30, 29, 1},
            {30, 50, 0}, {30, 51, 1}, {40, 50, 0}, {41, 51, 2}, {19, 29, 2}, {0, 0, 400 + 900}, {99, 99, 3481 + 2401},
            {44, 53, 25}};
        for (int[] p : at) {
            Checks.due("from " + p[0] + " " + p[1], x.nearest(p[0], p[1], 0, 1), p[2]);
        }
        BoxCourt y = new BoxCourt();
        y.put(0, 99, 99, 99, 99);
        Checks.due("the farthest of all", y.nearest(0, 0, 0, 1), 2 * 9801);
        Checks.due("the farthest of all: nodes", y.nearest(0, 0, 0, 2), 1);
    }

    private static void nearest() {
        Checks.sentence("if the distance of its box is not greater than that of the last one of the row");
        BoxCourt x = Checks.twoLeaves();
        Checks.due("25 and 26 left: box", x.nearest(35, 1, 0, 0), 1);
        Checks.due("25 both: nodes", x.nearest(35, 1, 0, 2), 3);
        Checks.due("24 left, 26 right: nodes", x.nearest(34, 1, 0, 2), 2);
        Checks.due("26 left, 24 right: nodes", x.nearest(36, 1, 0, 2), 2);
        Checks.due("26 left, 24 right: box", x.nearest(36, 1, 0, 0), 2);
        Checks.due("for both: nodes", x.nearest(34, 1, 1, 2), 3);

        BoxCourt y = Checks.made(new int[][] {{0, 5, 0, 5, 1}, {1, 0, 0, 0, 1}, {2, 60, 0, 60, 1}, {3, 53, 4, 53, 4},
            {4, 60, 0, 60, 1}});
        Checks.due("leaves", Checks.tree(y), "[[1 0][3 2 4]]");
        Checks.due("25 and 48 squared", y.nearest(5, 0, 1, 2), 2);
        Checks.due("48 squared: the box is not there", y.nearest(5, 0, 2, 1), 48 * 48 + 16);
        Checks.due("48 squared: nodes", y.nearest(5, 0, 2, 2), 3);

        Checks.sentence("the nearest one first, of several the one with the lowest number");
        BoxCourt z = new BoxCourt();
        z.put(30, 1, 1, 1, 1);
        z.put(2, 1, 1, 1, 1);
        z.put(0, 3, 1, 3, 1);
        z.put(9, 0, 2, 0, 2);
        int[] row = {2, 30, 9, 0};
        for (int index = 0; index < row.length; index++) {
            Checks.due("nearest " + index, z.nearest(1, 1, index, 0), row[index]);
        }
        Checks.due("of two at 4", z.nearest(1, 3, 2, 0), 30);
        Checks.sentence("NOT_FOUND if there are not so many boxes.");
        Checks.due("the last one", z.nearest(1, 1, 3, 1), 4);
        for (int what = 0; what < 3; what++) {
            Checks.due("after it " + what, z.nearest(1, 1, 4, what), Checks.NOT_FOUND);
            Checks.due("none at all " + what, new BoxCourt().nearest(1, 1, 0, what), Checks.NOT_FOUND);
        }
        Checks.due("far after it", z.nearest(1, 1, Checks.MAX, 0), Checks.NOT_FOUND);
        Checks.due("of 31", Checks.alike(31).nearest(0, 0, 30, 0), 30);
        Checks.due("after 31", Checks.alike(31).nearest(0, 0, 31, 0), Checks.NOT_FOUND);
        Checks.sentence("INVALID_ARGUMENT if an argument is out of range or index is negative");
        Checks.due("index -1", z.nearest(1, 1, -1, 0), Checks.INVALID);
        Checks.due("index MIN", z.nearest(1, 1, Checks.MIN, 0), Checks.INVALID);
        Checks.due("what -1", z.nearest(1, 1, 0, -1), Checks.INVALID);
        Checks.due("what 3", z.nearest(1, 1, 0, 3), Checks.INVALID);
    }

    private static String wouldAll(BoxCourt x, int lowX, int lowY, int highX, int highY) {
        StringBuilder all = new StringBuilder();
        for (int what = 0; what < 5; what++) {
            all.append(what == 0 ? "" : " ").append(x.would(lowX, lowY, highX, highY, what));
        }
        return all.toString();
    }

    private static void would() {
        Checks.sentence("1: 1 if this leaf would be too full, otherwise 0; 2: how many courts there would be; 3: how many "
                + "levels the tree would have then");
        Checks.due("0 in the root", wouldAll(new BoxCourt(), 7, 7, 7, 7), "0 0 0 1 0");
        Checks.due("3 in the root", wouldAll(Checks.alike(3), 7, 7, 7, 7), "0 0 0 1 0");
        Checks.due("4 in the root", wouldAll(Checks.alike(4), 7, 7, 7, 7), "0 1 0 2 0");
        Checks.due("3 in a leaf", wouldAll(Checks.alike(6), 7, 7, 7, 7), "0 0 0 2 0");
        Checks.due("4 in a leaf", wouldAll(Checks.alike(7), 7, 7, 7, 7), "0 1 1 2 0");
        Checks.due("4 in a leaf, 4 below the root", wouldAll(Checks.alike(13), 7, 7, 7, 7), "0 1 1 3 0");
        Checks.due("4 in a leaf, 4 in its node", wouldAll(Checks.alike(22), 7, 7, 7, 7), "0 1 2 3 0");
        Checks.sentence("0: the place of the leaf to which it would come first");
        BoxCourt courted = Checks.twoLeaves();
        Checks.span(courted, 5, 40, 40);
        Checks.span(courted, 6, 45, 45);
        Checks.due("the second leaf", courted.would(65, 0, 65, 1, 0), 1);
        Checks.due("the first leaf", courted.would(9, 0, 9, 1, 0), 0);
        Checks.sentence("4: the sum of the overlaps of each two leaves then");
        BoxCourt flat = Checks.made(new int[][] {{0, 0, 0, 20, 9}, {1, 0, 0, 20, 9}, {2, 0, 70, 20, 79}, {3, 0, 70, 20, 79},
            {4, 0, 1, 20, 9}});
        Checks.due("leaves", Checks.tree(flat), "[[0 1 4][2 3]]");
        Checks.due("by 1040 or by 200", wouldAll(flat, 0, 60, 20, 61), "1 0 0 2 0");
        Checks.due("by 620 each", wouldAll(flat, 0, 39, 9, 40), "0 0 0 2 0");
        Checks.due("by 620 or by 600", wouldAll(flat, 0, 40, 9, 40), "1 0 0 2 0");
        BoxCourt x = Checks.twoLeaves();
        Checks.due("0 to 10 and 10 to 70", x.would(10, 0, 62, 1, 4), 0);
        Checks.due("0 to 10 and 9 to 70", x.would(9, 0, 62, 1, 4), 1);
        Checks.due("nothing then", x.overlaps(0), 0);

        Checks.sentence("NOT_POSSIBLE if there are 31 boxes.");
        BoxCourt full = Checks.alike(30);
        Checks.due("30 boxes", full.would(7, 7, 7, 7, 3), 3);
        full.put(30, 7, 7, 7, 7);
        for (int what = 0; what < 5; what++) {
            Checks.due("31 boxes " + what, full.would(7, 7, 7, 7, what), Checks.NOT_POSSIBLE);
        }
        full.take(0);
        Checks.due("30 boxes, 0 free", full.would(7, 7, 7, 7, 3), 3);
        Checks.sentence("INVALID_ARGUMENT if an argument is out of range");
        Checks.due("what -1", x.would(0, 0, 0, 0, -1), Checks.INVALID);
        Checks.due("what 5", x.would(0, 0, 0, 0, 5), Checks.INVALID);
    }

    private static String wouldTakeAll(BoxCourt x, int box) {
        StringBuilder all = new StringBuilder();
        for (int what = 0; what < 4; what++) {
            all.append(what == 0 ? "" : " ").append(x.wouldTake(box, what));
        }
        return all.toString();
    }

    private static void wouldTake() {
        Checks.sentence("0: how many orphans there would be; 1: how many courts; 2: how many levels the tree would have "
                + "then; 3: the sum of the overlaps of each two leaves then");
        Checks.due("1 in the root", wouldTakeAll(Checks.alike(1), 0), "0 0 1 0");
        Checks.due("2 in the root", wouldTakeAll(Checks.alike(2), 0), "0 0 1 0");
        BoxCourt x = Checks.twoLeaves();
        Checks.due("3 in a leaf", wouldTakeAll(x, 0), "0 0 2 0");
        Checks.due("2 in a leaf, 2 below the root", wouldTakeAll(x, 2), "1 0 1 0");
        Checks.span(x, 5, 6, 6);
        Checks.due("2 in a leaf, 4 in the other one", wouldTakeAll(x, 2), "1 1 2 0");
        x.put(6, 9, 0, 62, 1);
        Checks.due("leaves that overlap by 1", x.overlaps(0), 1);
        Checks.due("without box 6", x.wouldTake(6, 3), 0);
        Checks.due("without box 2", x.wouldTake(2, 3), 1);
        BoxCourt two = Checks.alike(23);
        two.take(17);
        two.take(18);
        two.take(0);
        Checks.due("2 in a leaf, 2 in its node", wouldTakeAll(two, 1), "2 0 3 0");
        Checks.sentence("NOT_FOUND if there is no such box.");
        for (int what = 0; what < 4; what++) {
            Checks.due("none, " + what, two.wouldTake(0, what), Checks.NOT_FOUND);
        }
        Checks.due("one", two.wouldTake(1, 2), 3);
        Checks.sentence("INVALID_ARGUMENT if an argument is out of range");
        Checks.due("what -1", two.wouldTake(1, -1), Checks.INVALID);
        Checks.due("what 4", two.wouldTake(1, 4), Checks.INVALID);
    }

    private static void counts() {
        Checks.sentence("Creates an empty tree.");
        Checks.due("counts", Checks.counts(new BoxCourt()), "0 1 1 1 0 0 0 0 0 0 0");
        Checks.sentence("Returns a number.");
        Checks.due("4 boxes", Checks.counts(Checks.alike(4)), "4 1 1 1 0 0 0 0 4 0 0");
        Checks.due("5 boxes", Checks.counts(Checks.alike(5)), "5 2 3 2 0 0 1 0 4 0 0");
        Checks.due("8 boxes", Checks.counts(Checks.alike(8)), "8 2 4 3 1 1 2 0 4 0 0");
        Checks.due("14 boxes", Checks.counts(Checks.alike(14)), "14 3 8 5 1 3 5 0 4 0 0");
        Checks.due("31 boxes", Checks.counts(Checks.alike(31)), "31 3 14 10 0 9 11 0 4 0 0");
        int[] alone = {14, 3, 8, 5, 1, 3, 5, 0, 4, 0, 0};
        for (int what = 0; what < alone.length; what++) {
            Checks.due("14 boxes, count(" + what + ") alone", Checks.alike(14).count(what), alone[what]);
        }
        Checks.sentence("INVALID_ARGUMENT if what is out of range.");
        BoxCourt x = new BoxCourt();
        Checks.due("count(-1)", x.count(-1), Checks.INVALID);
        Checks.due("count(10)", x.count(10), 0);
        Checks.due("count(11)", x.count(11), Checks.INVALID);
        Checks.due("count(MIN)", x.count(Checks.MIN), Checks.INVALID);
        Checks.due("count(MAX)", x.count(Checks.MAX), Checks.INVALID);
    }

    public static void main(String[] args) {
        points();
        numbers();
        lowAndHigh();
        borders();
        areas();
        overlapsOfTwo();
        boxAround();
        putAndTake();
        boxOf();
        nodeOf();
        overlaps();
        court();
        window();
        distances();
        nearest();
        would();
        wouldTake();
        counts();
        Checks.end("LookEdgesTest");
    }
}
