/** Sentences of the document about courts and about taking out, at their edges and just beyond. */
public final class CourtEdgesTest {
    /** Four levels; box 0's leaf, and the nodes above it but the root, have two things each. */
    private static final int[][] FOUR_LEVELS = {{0, 0, 1, 0, 1}, {1, 1, 0, 1, 1}, {2, 0, 2, 1, 2}, {3, 1, 0, 1, 0},
        {4, 0, 0, 3, 3}, {5, 1, 0, 2, 0}, {6, 0, 2, 2, 2}, {7, 1, 0, 2, 1}, {8, 0, 0, 1, 2}, {10, 0, 1, 1, 1},
        {11, 0, 0, 2, 0}, {12, 0, 0, 0, 0}, {13, 0, 0, 1, 1}, {14, 0, 0, 0, 1}, {17, 0, 0, 1, 2}, {18, 0, 0, 2, 1},
        {19, 0, 0, 2, 1}, {21, 0, 0, 2, 1}, {25, 0, 0, 2, 1}, {27, 0, 0, 0, 3}, {28, 0, 0, 3, 0}, {29, 0, 0, 0, 3},
        {30, 0, 0, 0, 3}};
    /** Worked out with the second writing of the document in ModelTest, as are the answers to it. */
    private static final int[][] FAR_ONE_WAITS = {{0, 0, 7, 9, 7}, {1, 0, 7, 0, 16}, {2, 0, 1, 11, 13}, {3, 1, 0, 7, 0},
        {4, 1, 0, 1, 10}, {5, 0, 4, 0, 16}, {6, 0, 1, 17, 1}, {7, 0, 1, 0, 1}, {8, 0, 0, 12, 15}, {9, 1, 0, 1, 11},
        {12, 0, 1, 0, 1}, {13, 0, 0, 1, 0}, {14, 0, 0, 1, 0}, {17, 0, 0, 0, 0}, {18, 0, 1, 4, 8}, {20, 0, 0, 0, 1},
        {25, 0, 1, 1, 11}};
    private static final int[][] BOTH_ORPHANS_HOLD_COURT = {{0, 2, 0, 6, 9}, {1, 2, 3, 11, 11}, {2, 3, 3, 3, 3},
        {3, 1, 0, 1, 9}, {4, 2, 0, 8, 8}, {5, 0, 1, 6, 1}, {6, 2, 0, 2, 0}, {7, 0, 0, 1, 0}, {8, 0, 0, 0, 8},
        {10, 1, 0, 2, 3}, {11, 2, 0, 11, 0}, {12, 0, 0, 2, 0}, {13, 1, 0, 1, 11}, {16, 0, 0, 0, 0}, {17, 1, 0, 7, 0},
        {19, 0, 1, 0, 1}, {21, 0, 0, 0, 0}, {24, 1, 0, 2, 1}, {25, 0, 0, 0, 0}, {26, 2, 0, 2, 1}, {2}};

    private static BoxCourt spans(int[]... lowsAndHighs) {
        BoxCourt x = new BoxCourt();
        for (int box = 0; box < lowsAndHighs.length; box++) {
            Checks.span(x, box, lowsAndHighs[box][0], lowsAndHighs[box][1]);
        }
        return x;
    }

    private static int[] s(int low, int high) {
        return new int[] {low, high};
    }

    /**
     * The left leaf from 0 on has 0 and these boxes in its row, the right leaf from 76 on takes what is sent away at
     * its right end; the last box that is put is the fifth one. Of the left leaf's middle, 0 itself is the farthest.
     */
    private static void sentAway(String call, String want, int[] one, int[] two, int[] third, int[] last) {
        int edge = Math.max(third[1], last[1]) == 61 ? 77 : 76;
        BoxCourt x = spans(s(0, 0), one, two, s(90, 90), s(99, 99), third, s(edge, edge), last);
        Checks.due(call, Checks.tree(x), want);
        Checks.due(call + ": courts", Checks.courts(x), "0:2");
    }

    private static void farthest() {
        int[] d = s(40, 40);
        int[] e = s(30, 30);
        Checks.sentence("by the distance in a straight line, exactly, as middles may be halves; of several the one that "
                + "is later in the row");
        String rightIsSent = "[[1 2 7 0][3 4 6 5]]";
        sentAway("29 1/2 left, 29 1/2 right, which is later", rightIsSent, s(0, 1), d, s(59, 60), e);
        sentAway("30 left, 30 right, which is later", rightIsSent, s(0, 1), d, s(60, 61), e);
        sentAway("29 left, 29 1/2 right, which is ahead", rightIsSent, e, d, s(59, 60), s(0, 2));
        sentAway("29 1/2 left, which is ahead, 29 right", "[[0 1][7 2 5][3 4 6]]", s(0, 1), d, s(58, 60), e);
        sentAway("29 1/2 left, which is later, 29 1/2 right", "[[0 7][1 2 5][3 4 6]]", e, d, s(59, 60), s(0, 1));
        sentAway("30 left, which is later, 30 right", "[[0 7][1 2 5][3 4 6]]", e, d, s(60, 61), s(0, 1));
    }

    /** Box 0 keeps the left leaf's box as it is, box 6 makes the right leaf's box reach into it. */
    private static void straightLine() {
        straightLine("20 by 21 and 29 by 0, the first one later", "[[0 2 7][4 6 1 5]]", 1, 30, 50, 51);
        straightLine("20 by 21 and 29 by 1", "[[0 1 7 2][4 6 5]]", 1, 29, 50, 51);
        straightLine("20 by 20 and 29 by 0", "[[0 1 7 2][4 6 5]]", 1, 30, 50, 50);
        straightLine("20 by 22 and 29 by 1", "[[0 2 7][4 6 1 5]]", 1, 29, 50, 52);
    }

    private static void straightLine(String call, String want, int x2, int y2, int x1, int y1) {
        for (int up = 0; up < 10; up += 9) {
            BoxCourt x = Checks.made(new int[][] {{0, 0, up, 60, 60 + up}, {1, x1, y1 + up, x1, y1 + up},
                {2, x2, y2 + up, x2, y2 + up}, {3, 90, 90, 90, 90}, {4, 99, 99, 99, 99}, {5, 60, 60 + up, 60, 60 + up},
                {6, 45, 45 + up, 99, 99}, {3}, {7, 30, 30 + up, 30, 30 + up}});
            Checks.due(call + ", " + up + " up", Checks.tree(x), want);
            BoxCourt turned = Checks.made(new int[][] {{0, up, 0, 60 + up, 60}, {1, y1 + up, x1, y1 + up, x1},
                {2, y2 + up, x2, y2 + up, x2}, {3, 90, 90, 90, 90}, {4, 99, 99, 99, 99}, {5, 60 + up, 60, 60 + up, 60},
                {6, 45 + up, 45, 99, 99}, {3}, {7, 30 + up, 30, 30 + up, 30}});
            Checks.due(call + ", x and y turned, " + up + " right", Checks.tree(turned), want);
        }
    }

    /** Box 5 at 60 is the farthest one; when it is gone, the middle is not at 30 any more. */
    private static void middleOfAll() {
        Checks.sentence("whose middles are farthest from the middle of the box of the node (as it is with all 5");
        middleOfAll("20 left, 19 right", "[[0 2 8 1][4 6 7 5]]", 49);
        middleOfAll("20 left, 20 right, which is later", "[[0 1 8 2][4 6 7 5]]", 50);
        middleOfAll("20 left, 21 right", "[[0 1 8 2][4 6 7 5]]", 51);

        BoxCourt x = Checks.made(new int[][] {{0, 0, 0, 1, 0}, {1, 0, 0, 0, 0}, {2, 0, 0, 0, 0}, {3, 0, 0, 0, 1},
            {4, 0, 0, 0, 0}, {5, 0, 0, 0, 0}});
        Checks.due("4 in the leaf", Checks.tree(x), "[[1 2 3 5][4 0]]");
        x.put(6, 0, 0, 1, 1);
        Checks.due("the fifth one makes the middle", Checks.tree(x), "[[1 3 6][4 0 2 5]]");
    }

    private static void middleOfAll(String call, String want, int right) {
        BoxCourt x = spans(s(0, 40), s(10, 10), s(right, right), s(90, 90), s(99, 99), s(60, 60), s(76, 76), s(68, 68));
        x.take(3);
        Checks.span(x, 8, 30, 30);
        Checks.due(call, Checks.tree(x), want);
    }

    private static void nearerFirst() {
        Checks.sentence("the one whose middle is nearer first");
        nearerFirst("29 1/2, then 30, which is later", "[[0 2 1][4 6 5 7]]", s(59, 60), s(60, 60));
        nearerFirst("29 1/2, which is later, then 30", "[[0 2 1][4 6 7 5]]", s(60, 60), s(59, 60));
        Checks.sentence("(of several the one that was earlier in the row)");
        nearerFirst("30, then 30", "[[0 2 1][4 6 5 7]]", s(60, 60), s(60, 60));
        Checks.sentence("The others stay in their order.");
        nearerFirst("28, then 29", "[[0 2 1][4 6 5 7]]", s(58, 58), s(59, 59));
    }

    private static void nearerFirst(String call, String want, int[] earlier, int[] later) {
        BoxCourt x = spans(s(0, 40), s(30, 31), s(20, 20), s(90, 90), s(99, 99), earlier, s(76, 76));
        x.take(3);
        Checks.span(x, 7, later[0], later[1]);
        Checks.due(call, Checks.tree(x), want);
        Checks.due(call + ": courts", Checks.courts(x), "0:2");
    }

    private static void allThatFollows() {
        Checks.sentence("the one whose middle is nearer first, with all that follows of it");
        BoxCourt x = Checks.made(FAR_ONE_WAITS);
        Checks.due("a court above, then the far one", Checks.tree(x), "[[[7 12][0 18 25]][[20 5 1][17 13]][[14 2 8][6 9][4 3]]]");
        Checks.due("courts", Checks.courts(x), "0:2 1:4");
        Checks.due("courts so far", x.count(5), 6);
        Checks.due("splits so far", x.count(6), 8);
    }

    private static void fewerThanTwo() {
        Checks.sentence("Then, from this leaf on upwards, but not the root: a node that has fewer than 2 things is taken "
                + "out of the row of the node above, and the thing that is in it is an orphan");
        BoxCourt x = Checks.twoLeaves();
        x.take(0);
        Checks.due("2 in a leaf", Checks.tree(x), "[[4 1][2 3]]");
        Checks.due("2 in a leaf: orphans", x.count(7), 0);
        x.take(4);
        Checks.due("1 in a leaf", Checks.tree(x), "[2 3 1]");
        Checks.due("1 in a leaf: orphans", x.count(7), 1);
        x.take(2);
        x.take(3);
        Checks.due("1 in the root", Checks.tree(x), "[1]");
        x.take(1);
        Checks.due("0 in the root", Checks.tree(x), "[]");
        Checks.due("0 in the root: orphans", x.count(7), 1);

        x = Checks.alike(23);
        x.take(17);
        Checks.due("2 in a leaf of three levels: orphans", x.count(7), 0);
        x.take(18);
        Checks.due("2 in a node", Checks.tree(x),
                "[[[0 1 19][20 21 22]][[14 15 16][11 12 13]][[8 9 10][5 6 7][2 3 4]]]");
        Checks.due("2 in a node: orphans", x.count(7), 1);
        x.take(0);
        x.take(1);
        Checks.due("1 in a node", Checks.tree(x),
                "[[[14 15 16 19][11 12 13][20 21 22]][[8 9 10][5 6 7][2 3 4]]]");
        Checks.due("1 in a node: orphans", x.count(7), 3);

        x = threeLevels(0);
        Checks.span(x, 13, 31, 31);
        x.take(5);
        Checks.due("2 in a leaf, from 31 to 50", Checks.frame(x, 1, 1), "31 0 70 1");
        x.take(6);
        Checks.due("the node above is less then, so the orphan at 31 comes to the other one", Checks.tree(x),
                "[[[0 1][10 11 12 13]][[7 8 9][2 3 4]]]");
        Checks.due("the node above", Checks.frame(x, 1, 1), "60 0 70 1");

        x = Checks.made(FOUR_LEVELS);
        Checks.due("four levels", Checks.tree(x), "[[[[10 0][13 14]][[11 12][18 19]]]"
                + "[[[1 3][7 5]][[27 29][8 17]][[2 6][28 21][30 25 4]]]]");
        Checks.due("1 in each of three nodes, 1 in the root", x.take(0), 3);
        Checks.due("1 in each of three nodes: orphans", x.count(7), 3);
    }

    /** Leaves at 0 and 10 below the first node, at 50, 60 and 70 (and 80) below the second one. */
    private static BoxCourt threeLevels(int atEighty) {
        BoxCourt x = new BoxCourt();
        int[] at = {0, 0, 70, 70, 70, 50, 50, 60, 60, 60, 10, 10, 10, 80, 80, 80};
        for (int box = 0; box < 13 + atEighty; box++) {
            Checks.span(x, box, at[box], at[box]);
        }
        return x;
    }

    private static void orphansCome() {
        Checks.sentence("Then all orphans come to the levels of the nodes in which they were, those of the highest level "
                + "first");
        BoxCourt x = threeLevels(0);
        Checks.due("three levels", Checks.tree(x), "[[[0 1][10 11 12]][[5 6][7 8 9][2 3 4]]]");
        x.take(0);
        Checks.due("the leaf, then the box into it", Checks.tree(x), "[[5 6][7 8 9][2 3 4][10 11 12 1]]");
        Checks.due("orphans", x.count(7), 2);
        Checks.due("4 below the second node: courts", Checks.courts(x), "");

        Checks.sentence("with the root as it is then");
        x = threeLevels(2);
        Checks.due("three levels", Checks.tree(x), "[[[0 1][10 11 12]][[5 6][7 8 9][2 3 4][13 14]]]");
        Checks.due("5 below the only node below the root", x.take(0), 3);
        Checks.due("which holds a court, as it is no root, and is split", Checks.tree(x),
                "[[[10 11 12 1][5 6]][[7 8 9][2 3 4][13 14]]]");
        Checks.due("courts", Checks.courts(x), "1:5");

        Checks.sentence("each of these is an insertion of its own");
        x = Checks.made(BOTH_ORPHANS_HOLD_COURT);
        Checks.due("two courts at one level", Checks.courts(x), "1:4 0:2 1:4");
        Checks.due("tree", Checks.tree(x),
                "[[[25 12 6][16 21][5 19]][[8 7][3 10 24]][[4 13 1][11 17][26 0]]]");
        Checks.due("courts so far", x.count(5), 11);
        Checks.due("splits so far", x.count(6), 11);
    }

    private static void rootAlone() {
        Checks.sentence("At last, as long as the root is no leaf and has one node alone, this is the root.");
        BoxCourt x = threeLevels(0);
        Checks.due("2 below the root: levels", x.take(10), 3);
        Checks.due("1 below the root: levels", x.take(11), 2);
        Checks.due("1 below the root", Checks.tree(x), "[[5 6][7 8 9][2 3 4][0 1 12]]");
        x = Checks.twoLeaves();
        Checks.due("2 leaves: levels", x.take(0), 2);
        Checks.due("1 leaf: levels", x.take(1), 1);
        x.take(4);
        x.take(2);
        Checks.due("1 box in the leaf that is the root", Checks.tree(x), "[3]");
        Checks.due("levels", x.count(1), 1);
    }

    public static void main(String[] args) {
        farthest();
        Checks.sentence("by the distance in a straight line, exactly");
        straightLine();
        middleOfAll();
        nearerFirst();
        allThatFollows();
        fewerThanTwo();
        orphansCome();
        rootAlone();
        Checks.end("CourtEdgesTest");
    }
}
