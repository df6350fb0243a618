/** Sentences of "The tree" and "To come to a level" but for its courts, at their edges and just beyond. */
public final class TreeEdgesTest {
    private static void emptyRoot() {
        Checks.sentence("There is one root; the root is an empty leaf at first.");
        BoxCourt x = new BoxCourt();
        Checks.due("tree", Checks.tree(x), "[]");
        Checks.due("levels", x.count(1), 1);
        Checks.due("nodes", x.count(2), 1);
        Checks.due("leaves", x.count(3), 1);
    }

    private static void sizes() {
        Checks.sentence("A node has at most 4 things in its row, when all is done, and each but the root at least 2");
        BoxCourt x = Checks.alike(4);
        Checks.due("4 in the root", Checks.tree(x), "[0 1 2 3]");
        x.put(4, 7, 7, 7, 7);
        Checks.due("5 in the root", Checks.tree(x), "[[0 1][2 3 4]]");
        x = Checks.alike(7);
        Checks.due("4 in a leaf", Checks.tree(x), "[[0 1 5 6][2 3 4]]");
        x.put(7, 7, 7, 7, 7);
        Checks.due("5 in a leaf", Checks.tree(x), "[[0 1][5 6 7][2 3 4]]");
        x = Checks.alike(2);
        x.take(0);
        Checks.due("1 in the root", Checks.tree(x), "[1]");
        x.take(1);
        Checks.due("0 in the root", Checks.tree(x), "[]");

        Checks.sentence("a root that is no leaf, too");
        x = Checks.twoLeaves();
        x.take(0);
        Checks.due("2 in the root", Checks.tree(x), "[[4 1][2 3]]");
        x.take(3);
        Checks.due("1 in the root", Checks.tree(x), "[4 1 2]");
    }

    private static void sizesAlways() {
        Checks.sentence("A node has at most 4 things in its row, when all is done, and each but the root at least 2");
        for (int boxes = 1; boxes <= Checks.BOXES; boxes++) {
            BoxCourt x = Checks.alike(boxes);
            int top = x.count(1) - 1;
            for (int level = 0; level <= top; level++) {
                for (int place = 0; place < 16 && x.nodeOf(level, place, 4) >= 0; place++) {
                    int size = x.nodeOf(level, place, 4);
                    int least = top == 0 ? 1 : 2;
                    Checks.due(boxes + " boxes: node " + level + " " + place + " with " + size,
                            Math.max(least, Math.min(4, size)), size);
                }
            }
        }
    }

    private static BoxCourt twoLeavesUpTo(int first, int second) {
        BoxCourt x = new BoxCourt();
        Checks.span(x, 0, 0, 0);
        Checks.span(x, 1, first, first);
        Checks.span(x, 2, 60, 60);
        Checks.span(x, 3, second, second);
        Checks.span(x, 4, 5, 5);
        Checks.due("leaves", Checks.tree(x), "[[0 4 1][2 3]]");
        return x;
    }

    private static void leastGreater() {
        Checks.sentence("that one of its nodes whose box would have to become least greater in area");
        BoxCourt x = Checks.twoLeaves();
        Checks.due("leaves", Checks.tree(x), "[[0 4 1][2 3]]");
        Checks.due("by 26 or by 25", x.would(35, 0, 36, 1, 0), 1);
        Checks.due("by 25 or by 26", x.would(34, 0, 35, 1, 0), 0);
        Checks.due("by 0 or by 51", x.would(9, 0, 10, 1, 0), 0);
        Checks.due("by 50 or by 0", x.would(60, 0, 60, 1, 0), 1);
        x.put(5, 35, 0, 36, 1);
        Checks.due("put", Checks.tree(x), "[[0 4 1][2 3 5]]");
        BoxCourt all = Checks.made(new int[][] {{0, 0, 0, 99, 99}, {1, 0, 0, 99, 98}, {2, 98, 0, 99, 1},
            {3, 99, 0, 99, 1}, {4, 98, 0, 99, 0}});
        Checks.due("areas of 9801 and 1", all.count(10), 9801 + 1);
        Checks.due("by 0 or by 9800", all.would(0, 0, 99, 99, 0), 0);

        Checks.sentence("of several to the one with the least area");
        x = twoLeavesUpTo(11, 70);
        Checks.due("by 25 each, areas 11 and 10", x.would(35, 0, 36, 1, 0), 1);
        x = twoLeavesUpTo(10, 71);
        Checks.due("by 25 each, areas 10 and 11", x.would(35, 0, 35, 1, 0), 0);

        Checks.sentence("of several to the first one in its row");
        x = Checks.twoLeaves();
        Checks.due("by 25 each, areas 10 and 10", x.would(35, 0, 35, 1, 0), 0);
        x.put(5, 35, 0, 35, 1);
        Checks.due("put", Checks.tree(x), "[[0 4 1 5][2 3]]");
    }

    private static void tooFull() {
        Checks.sentence("If there are 5 things in the row then, the node is too full: if it is not the root");
        BoxCourt x = Checks.alike(4);
        Checks.due("4 in the root: splits", x.count(6), 0);
        x = Checks.twoLeaves();
        Checks.due("5 in the root: courts", x.count(5), 0);
        Checks.due("5 in the root: splits", x.count(6), 1);
        Checks.span(x, 5, 6, 6);
        Checks.due("4 in a leaf: courts", x.count(5), 0);
        Checks.due("4 in a leaf", Checks.tree(x), "[[0 4 1 5][2 3]]");
        Checks.span(x, 6, 7, 7);
        Checks.due("5 in a leaf: courts", Checks.courts(x), "0:2");

        Checks.sentence("and there was no court at this level during this insertion, there is a court at this level; "
                + "otherwise it is split");
        Checks.due("5 again in the same insertion: splits", x.count(6), 2);
        Checks.due("5 again in the same insertion", Checks.tree(x), "[[0 4][5 6 1][2 3]]");
        Checks.span(x, 7, 8, 8);
        Checks.due("4 in a leaf: courts", Checks.courts(x), "");
        Checks.span(x, 8, 9, 9);
        Checks.due("5 in another insertion: courts", Checks.courts(x), "0:2");
        Checks.due("courts so far", x.count(5), 2);
    }

    /** Boxes that are alike come to the first leaf: three of them make one leaf more. */
    private static void tooFullAbove() {
        Checks.sentence("If the node above is too full then, it is looked at likewise.");
        BoxCourt x = Checks.alike(13);
        Checks.due("4 below the root, 4 in a leaf", Checks.tree(x), "[[0 1 11 12][8 9 10][5 6 7][2 3 4]]");
        Checks.due("put", x.put(13, 7, 7, 7, 7), 3);
        Checks.due("5 below the root", Checks.tree(x), "[[[0 1][11 12 13]][[8 9 10][5 6 7][2 3 4]]]");
        Checks.due("5 below the root: no court at its level", Checks.courts(x), "0:2");

        x = Checks.alike(22);
        Checks.due("4 in a node", Checks.tree(x),
                "[[[0 1 20 21][17 18 19][14 15 16][11 12 13]][[8 9 10][5 6 7][2 3 4]]]");
        Checks.due("4 in a node: courts", Checks.courts(x), "");
        x.put(22, 7, 7, 7, 7);
        Checks.due("5 in a node: courts", Checks.courts(x), "0:2 1:6");
        Checks.due("5 in a node: no court twice, but a split", Checks.tree(x),
                "[[[0 1][20 21 22]][[17 18 19][14 15 16][11 12 13]][[8 9 10][5 6 7][2 3 4]]]");
        Checks.due("5 in a node: splits", x.count(6), 9);
    }

    private static void split() {
        Checks.sentence("The node has the first part then, in this order, and a new node of the same level, which comes "
                + "to the row of the node above right behind it, the second part.");
        BoxCourt x = Checks.twoLeaves();
        Checks.span(x, 5, 65, 65);
        Checks.span(x, 6, 66, 66);
        Checks.span(x, 7, 64, 64);
        Checks.due("the last leaf is split", Checks.tree(x), "[[0 4 1][2 7][5 6 3]]");
        Checks.span(x, 8, 6, 6);
        Checks.span(x, 9, 7, 7);
        Checks.due("the first leaf is split", Checks.tree(x), "[[0 4][8 9 1][2 7][5 6 3]]");

        Checks.sentence("If it was the root, there is a new root of the next level above with both of them.");
        x = Checks.alike(4);
        Checks.due("levels of 4", x.count(1), 1);
        x.put(4, 7, 7, 7, 7);
        Checks.due("levels of 5", x.count(1), 2);
        Checks.due("things of the new root", x.nodeOf(1, 0, 4), 2);
    }

    private static int[] box(int lowX, int lowY, int highX, int highY) {
        return new int[] {lowX, lowY, highX, highY};
    }

    private static int[] point(int x, int y) {
        return box(x, y, x, y);
    }

    private static int[] span(int low, int high) {
        return box(low, 0, high, 1);
    }

    /** The same on its side. */
    private static int[] rise(int low, int high) {
        return box(0, low, 1, high);
    }

    private static void splits(String call, String want, int[]... boxes) {
        BoxCourt x = new BoxCourt();
        for (int box = 0; box < boxes.length; box++) {
            int[] b = boxes[box];
            x.put(box, b[0], b[1], b[2], b[3]);
        }
        Checks.due(call, Checks.tree(x), want);
    }

    private static void orderOfSplit() {
        Checks.sentence("the things of the node are put in order by their low x, of several by their high x, of several "
                + "as they are in the row");
        splits("low x", "[[4 3][2 1 0]]", point(4, 0), point(3, 0), point(2, 0), point(1, 0), point(0, 0));
        splits("low x rather than high x", "[[2 1 0][3 4]]", span(1, 1), span(0, 9), span(0, 8), span(60, 60),
                span(70, 70));
        splits("low x by 1, high x by 69", "[[2 1 0][3 4]]", span(1, 1), span(0, 70), span(0, 69), span(90, 90),
                span(99, 99));
        splits("high x", "[[2 1 0][4 3]]", span(0, 5), span(0, 4), span(0, 3), span(60, 70), span(60, 69));
        splits("high x, one as another", "[[2 0 1][3 4]]", span(0, 5), span(0, 5), span(0, 4), span(60, 70),
                span(60, 70));
        splits("as in the row", "[[0 1][2 3 4]]", span(5, 6), span(5, 6), span(5, 6), span(5, 6), span(5, 6));

        Checks.sentence("or likewise by their low y, then high y");
        splits("low y", "[[1 3][4 2 0]]", rise(4, 4), rise(0, 0), rise(3, 3), rise(1, 1), rise(2, 2));
        splits("low y rather than high y", "[[4 2 1][3 0]]", rise(70, 70), rise(1, 1), rise(0, 9), rise(60, 60),
                rise(0, 8));
        splits("low y by 1, high y by 69", "[[4 2 1][3 0]]", rise(99, 99), rise(1, 1), rise(0, 70), rise(90, 90),
                rise(0, 69));
        splits("high y", "[[4 2 1][3 0]]", rise(60, 70), rise(0, 5), rise(0, 4), rise(60, 69), rise(0, 3));
        splits("high y, one as another", "[[4 1 2][0 3]]", rise(60, 70), rise(0, 5), rise(0, 5), rise(60, 70),
                rise(0, 4));
    }

    /** The leaf of box 5, from 5 to 95, comes ahead of that of 0 and 1, at 10, when the root is split. */
    private static void orderOfNodes() {
        Checks.sentence("(nodes by their boxes)");
        BoxCourt x = new BoxCourt();
        int[][] spans = {{10, 10}, {10, 10}, {60, 60}, {75, 75}, {90, 90}, {5, 95}, {50, 50}, {80, 80}, {85, 85},
            {82, 82}, {11, 11}};
        for (int box = 0; box < spans.length; box++) {
            Checks.span(x, box, spans[box][0], spans[box][1]);
        }
        Checks.due("4 below the root", Checks.tree(x), "[[0 1][5 6 2 10][3 4][7 8 9]]");
        Checks.span(x, 11, 12, 12);
        Checks.due("5 below the root", Checks.tree(x), "[[[5 6 2][0 1][11 10]][[3 4][7 8 9]]]");
    }

    private static void bestWay() {
        Checks.sentence("Of these four ways the one is taken by which the boxes around both parts overlap least");
        splits("by 1 or by 0, which has more area", "[[0 1 2][3 4]]", box(0, 0, 1, 1), box(0, 0, 11, 1),
                box(10, 0, 29, 50), box(30, 0, 31, 50), box(30, 0, 31, 50));
        splits("by 0, a border, or by 0", "[[0 1][2 3 4]]", box(0, 0, 1, 1), box(0, 0, 10, 1),
                box(10, 0, 29, 50), box(30, 0, 31, 50), box(30, 0, 31, 50));
        splits("by 2 or by 1", "[[0 1 2][3 4]]", span(0, 10), span(5, 12), span(10, 20), span(19, 30), span(25, 40));
        splits("by 1 or by 2", "[[0 1][2 3 4]]", span(0, 10), span(5, 11), span(10, 21), span(19, 30), span(25, 40));

        Checks.sentence("of several the one with the least sum of both areas");
        splits("20 - 10 or 20 - 9", "[[0 1][2 3 4]]", span(0, 0), span(1, 1), span(11, 11), span(20, 20), span(21, 21));
        splits("20 - 9 or 20 - 10", "[[0 1 2][3 4]]", span(0, 0), span(1, 1), span(10, 10), span(20, 20), span(21, 21));
        splits("by y, 20 - 9 or 20 - 10", "[[1 4 3][0 2]]", rise(20, 20), rise(0, 0), rise(21, 21), rise(10, 10),
                rise(1, 1));
        splits("by y, 20 - 10 or 20 - 9", "[[1 4][3 0 2]]", rise(20, 20), rise(0, 0), rise(21, 21), rise(11, 11),
                rise(1, 1));

        Checks.sentence("of several by x ahead of by y, the first two ahead of the first three");
        splits("all four alike", "[[0 1][2 3 4]]", point(0, 4), point(1, 3), point(2, 2), point(3, 1), point(4, 0));
        splits("three by x or two by y", "[[0 1 2][3 4]]", point(0, 60), point(1, 59), point(2, 58), point(50, 10),
                point(51, 9));
        splits("two by x or three by y", "[[0 1][2 3 4]]", point(0, 51), point(1, 50), point(49, 2), point(50, 1),
                point(51, 0));
        splits("two by y or three by y", "[[1 3][4 2 0]]", rise(4, 4), rise(0, 0), rise(3, 3), rise(1, 1), rise(2, 2));
    }

    public static void main(String[] args) {
        emptyRoot();
        sizes();
        sizesAlways();
        leastGreater();
        tooFull();
        tooFullAbove();
        split();
        orderOfSplit();
        orderOfNodes();
        bestWay();
        Checks.end("TreeEdgesTest");
    }
}
