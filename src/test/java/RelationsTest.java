import java.util.ArrayList;
import java.util.Arrays;
import java.util.List;

/**
 * Sentences that tie the answer of one call to the answers of others: looked at in many trees, whose changes an own
 * row of numbers picks. Nothing of the program's rules is written a second time here but what a sentence itself says.
 * An object is used for some 500 calls at most, so the same changes are done on a new one for each look.
 */
public final class RelationsTest {
    private static final int RUNS = 300;
    private static final int MOST_CHANGES = 55;
    private static final int PUT = 5;
    private static final int TAKE = 1;

    private static long seed;
    private static int undosWithCourt = 0;
    private static int mostLevels = 0;

    private static int pick(int bound) {
        seed = seed * 6364136223846793005L + 1442695040888963407L;
        return (int) ((seed >>> 33) % bound);
    }

    /** A box as four sides. */
    private static int[] pickSides(int wide) {
        int x = pick(100);
        int y = pick(100);
        return new int[] {x, y, Math.min(99, x + pick(wide)), Math.min(99, y + pick(wide))};
    }

    private static int area(int[] b) {
        return (b[2] - b[0]) * (b[3] - b[1]);
    }

    private static int[] around(int[] a, int[] b) {
        return new int[] {Math.min(a[0], b[0]), Math.min(a[1], b[1]), Math.max(a[2], b[2]), Math.max(a[3], b[3])};
    }

    private static boolean meet(int[] a, int[] b) {
        return Math.max(a[0], b[0]) <= Math.min(a[2], b[2]) && Math.max(a[1], b[1]) <= Math.min(a[3], b[3]);
    }

    private static int shared(int[] a, int[] b) {
        int[] both = {Math.max(a[0], b[0]), Math.max(a[1], b[1]), Math.min(a[2], b[2]), Math.min(a[3], b[3])};
        return meet(a, b) ? area(both) : 0;
    }

    private static int square(int[] b, int x, int y) {
        int nearX = Math.max(b[0], Math.min(b[2], x));
        int nearY = Math.max(b[1], Math.min(b[3], y));
        return (nearX - x) * (nearX - x) + (nearY - y) * (nearY - y);
    }

    /** What boxOf and nodeOf tell of a tree: rows of their answers, in the order of what. */
    private static final class Seen {
        final int[][] boxes = new int[Checks.BOXES][];
        final List<List<int[]>> levels = new ArrayList<>();

        Seen(BoxCourt x) {
            int level = 0;
            for (List<int[]> nodes = nodes(x, level); !nodes.isEmpty(); nodes = nodes(x, level)) {
                levels.add(nodes);
                level++;
            }
            int set = x.window(0, 0, 99, 99, 0);
            for (int box = 0; box < Checks.BOXES; box++) {
                if ((set >> box & 1) == 1) {
                    boxes[box] = new int[6];
                    for (int what = 0; what < 6; what++) {
                        boxes[box][what] = x.boxOf(box, what);
                    }
                }
            }
        }

        private static List<int[]> nodes(BoxCourt x, int level) {
            List<int[]> nodes = new ArrayList<>();
            int size = x.nodeOf(level, 0, 4);
            while (size >= 0) {
                int place = nodes.size();
                nodes.add(new int[] {x.nodeOf(level, place, 0), x.nodeOf(level, place, 1), x.nodeOf(level, place, 2),
                    x.nodeOf(level, place, 3), size, x.nodeOf(level, place, 5)});
                size = x.nodeOf(level, place + 1, 4);
            }
            return nodes;
        }

        boolean isEmpty() {
            return levels.size() == 1 && levels.get(0).get(0)[4] == 0;
        }

        int count() {
            int count = 0;
            for (int[] box : boxes) {
                count += box == null ? 0 : 1;
            }
            return count;
        }

        int nodes() {
            int nodes = 0;
            for (List<int[]> level : levels) {
                nodes += level.size();
            }
            return nodes;
        }

        List<int[]> allNodes() {
            List<int[]> all = new ArrayList<>();
            for (List<int[]> level : levels) {
                all.addAll(level);
            }
            return all;
        }

        String told() {
            StringBuilder all = new StringBuilder(Arrays.deepToString(boxes));
            for (List<int[]> level : levels) {
                all.append(Arrays.deepToString(level.toArray()));
            }
            return all.toString();
        }

        /** A number of a box that is there, or is not there; -1 if there is none. */
        int pickBox(boolean there) {
            int box = pick(Checks.BOXES);
            for (int i = 0; i < Checks.BOXES; i++) {
                if ((boxes[box] != null) == there) {
                    return box;
                }
                box = (box + 1) % Checks.BOXES;
            }
            return -1;
        }
    }

    private static int change(BoxCourt x, int[] change) {
        if (change.length == PUT) {
            return x.put(change[0], change[1], change[2], change[3], change[4]);
        }
        return change.length == TAKE ? x.take(change[0]) : x.undo();
    }

    private static BoxCourt made(List<int[]> changes) {
        BoxCourt x = new BoxCourt();
        for (int[] change : changes) {
            change(x, change);
        }
        return x;
    }

    /** Puts, takes and undos that are all possible; which boxes are there is known by the box sets alone. */
    private static List<int[]> pickChanges(int run) {
        List<int[]> changes = new ArrayList<>();
        int wide = 1 + pick(run % 3 == 0 ? 60 : 12);
        int most = 1 + pick(MOST_CHANGES);
        int putsOfTen = 6 + pick(4);
        BoxCourt x = new BoxCourt();
        for (int i = 0; i < most; i++) {
            int there = x.window(0, 0, 99, 99, 0);
            int box = pick(Checks.BOXES);
            boolean puts = pick(10) < putsOfTen;
            for (int step = 0; step < Checks.BOXES && (there >> box & 1) == (puts ? 1 : 0); step++) {
                box = (box + 1) % Checks.BOXES;
            }
            int[] sides = pickSides(wide);
            int[] next = puts ? new int[] {box, sides[0], sides[1], sides[2], sides[3]} : new int[] {box};
            if (pick(12) == 0) {
                next = new int[0];
            }
            if (change(x, next) >= 0) {
                changes.add(next);
            }
        }
        return changes;
    }

    private static void rows(String run, Seen seen) {
        Checks.sentence("A node of level 0, a leaf, has boxes; a node of another level has nodes of the level below it.");
        int boxes = 0;
        for (int place = 0; place < seen.levels.get(0).size(); place++) {
            int[] leaf = seen.levels.get(0).get(place);
            Checks.due(run + "leaf " + place + ": boxes", Integer.bitCount(leaf[5]), leaf[4]);
            Checks.due(run + "leaf " + place + ": boxes of leaves ahead", boxes & leaf[5], 0);
            boxes |= leaf[5];
        }
        Checks.due(run + "boxes of all leaves", Integer.bitCount(boxes), seen.count());
        for (int level = 1; level < seen.levels.size(); level++) {
            int below = 0;
            for (int[] node : seen.levels.get(level)) {
                Checks.due(run + "level " + level + ": first node", node[5], below);
                below += node[4];
            }
            Checks.due(run + "level " + level + ": all nodes", below, seen.levels.get(level - 1).size());
        }
        Checks.sentence("There is one root");
        Checks.due(run + "nodes of the highest level", seen.levels.get(seen.levels.size() - 1).size(), 1);
        places(run, seen);
    }

    private static void places(String run, Seen seen) {
        Checks.sentence("Sets are told as bits: bit k is for number k.");
        int[] taken = new int[seen.levels.get(0).size()];
        for (int box = 0; box < Checks.BOXES; box++) {
            int[] b = seen.boxes[box];
            if (b != null) {
                int[] leaf = seen.levels.get(0).get(b[4]);
                Checks.due(run + "box " + box + " in its leaf", leaf[5] >> box & 1, 1);
                Checks.due(run + "box " + box + ": place below 4", Math.max(0, Math.min(leaf[4] - 1, b[5])), b[5]);
                taken[b[4]] |= 1 << b[5];
            }
        }
        Checks.sentence("What a node has is in a row.");
        for (int place = 0; place < taken.length; place++) {
            Checks.due(run + "leaf " + place + ": places", taken[place], (1 << seen.levels.get(0).get(place)[4]) - 1);
        }
    }

    private static void sizes(String run, Seen seen) {
        Checks.sentence("A node has at most 4 things in its row, when all is done, and each but the root at least 2");
        for (int level = 0; level < seen.levels.size(); level++) {
            boolean isRoot = level == seen.levels.size() - 1;
            int least = isRoot && level == 0 ? 0 : 2;
            for (int[] node : seen.levels.get(level)) {
                Checks.due(run + "level " + level + ": size", Math.max(least, Math.min(4, node[4])), node[4]);
            }
        }
    }

    private static void frames(String run, Seen seen) {
        Checks.sentence("The box of a node is the box around all that is in it.");
        for (int level = 0; level < seen.levels.size(); level++) {
            for (int place = 0; place < seen.levels.get(level).size() && !seen.isEmpty(); place++) {
                int[] node = seen.levels.get(level).get(place);
                int[] all = null;
                for (int box = 0; box < Checks.BOXES && level == 0; box++) {
                    if ((node[5] >> box & 1) == 1) {
                        all = all == null ? seen.boxes[box] : around(all, seen.boxes[box]);
                    }
                }
                for (int i = 0; i < node[4] && level > 0; i++) {
                    int[] below = seen.levels.get(level - 1).get(node[5] + i);
                    all = all == null ? below : around(all, below);
                }
                Checks.due(run + "level " + level + " place " + place, Arrays.toString(Arrays.copyOf(node, 4)),
                        Arrays.toString(Arrays.copyOf(all, 4)));
            }
        }
    }

    private static void sums(String run, BoxCourt x, Seen seen) {
        Checks.sentence("Returns the sum of the overlaps of each two nodes of a level.");
        for (int level = 0; level < seen.levels.size() && !seen.isEmpty(); level++) {
            int sum = 0;
            List<int[]> nodes = seen.levels.get(level);
            for (int i = 0; i < nodes.size(); i++) {
                for (int j = 0; j < i; j++) {
                    sum += shared(nodes.get(i), nodes.get(j));
                }
            }
            Checks.due(run + "overlaps(" + level + ")", x.overlaps(level), sum);
        }
        Checks.sentence("NOT_FOUND if there is no such level.");
        Checks.due(run + "overlaps above the root", x.overlaps(seen.levels.size()), Checks.NOT_FOUND);
        Checks.sentence("0: boxes; 1: levels; 2: nodes; 3: leaves;");
        Checks.due(run + "count(0)", x.count(0), seen.count());
        Checks.due(run + "count(1)", x.count(1), seen.levels.size());
        Checks.due(run + "count(2)", x.count(2), seen.nodes());
        Checks.due(run + "count(3)", x.count(3), seen.levels.get(0).size());
        Checks.sentence("10: the sum of the areas of all leaves");
        int areas = 0;
        for (int[] leaf : seen.levels.get(0)) {
            areas += seen.isEmpty() ? 0 : area(leaf);
        }
        Checks.due(run + "count(10)", x.count(10), areas);
        Checks.sentence("4: courts of the latest putting or taking out, as court() tells them;");
        String courts = Checks.courts(x);
        Checks.due(run + "count(4)", x.count(4), courts.isEmpty() ? 0 : courts.split(" ").length);
        mostLevels = Math.max(mostLevels, seen.levels.size());
    }

    private static void pairs(String run, BoxCourt x, Seen seen) {
        Checks.sentence("what they have in common is a box, too, whose area is their overlap");
        for (int i = 0; i < 60; i++) {
            int one = pick(Checks.BOXES);
            int other = pick(Checks.BOXES);
            int[] a = seen.boxes[one];
            int[] b = seen.boxes[other];
            Checks.due(run + "overlap(" + one + ", " + other + ")", x.overlap(one, other),
                    a == null || b == null ? Checks.NOT_FOUND : shared(a, b));
        }
    }

    private static void windows(String run, BoxCourt x, Seen seen) {
        for (int i = 0; i < 20; i++) {
            int[] w = pickSides(1 + pick(60));
            int set = 0;
            for (int box = 0; box < Checks.BOXES; box++) {
                set |= seen.boxes[box] != null && meet(seen.boxes[box], w) ? 1 << box : 0;
            }
            int nodes = 0;
            for (int[] node : seen.allNodes()) {
                nodes += !seen.isEmpty() && meet(node, w) ? 1 : 0;
            }
            Checks.sentence("0: the set of boxes that have a point in common with it");
            Checks.due(run + "window " + Arrays.toString(w) + " 0", x.window(w[0], w[1], w[2], w[3], 0), set);
            Checks.sentence("A node has to be looked into for a window (a box) if its box and the window have a point in "
                    + "common");
            Checks.due(run + "window " + Arrays.toString(w) + " 1", x.window(w[0], w[1], w[2], w[3], 1), nodes);
        }
    }

    private static void nearest(String run, BoxCourt x, Seen seen) {
        int px = pick(100);
        int py = pick(100);
        List<Integer> order = new ArrayList<>();
        for (int box = 0; box < Checks.BOXES; box++) {
            if (seen.boxes[box] != null) {
                order.add(box);
            }
        }
        order.sort((a, b) -> square(seen.boxes[a], px, py) - square(seen.boxes[b], px, py));
        for (int index = 0; index < order.size(); index++) {
            int last = square(seen.boxes[order.get(index)], px, py);
            int nodes = 0;
            for (int[] node : seen.allNodes()) {
                nodes += square(node, px, py) <= last ? 1 : 0;
            }
            String call = run + "nearest(" + px + ", " + py + ", " + index + ", ";
            Checks.sentence("the nearest one first, of several the one with the lowest number");
            Checks.due(call + "0)", x.nearest(px, py, index, 0), order.get(index));
            Checks.sentence("The distance of a box (or of the box of a node) and a point is told as its square");
            Checks.due(call + "1)", x.nearest(px, py, index, 1), last);
            Checks.sentence("2: how many nodes have to be looked into for the row up to it");
            Checks.due(call + "2)", x.nearest(px, py, index, 2), nodes);
        }
        Checks.sentence("NOT_FOUND if there are not so many boxes.");
        Checks.due(run + "nearest beyond", x.nearest(px, py, order.size(), 0), Checks.NOT_FOUND);
    }

    /** The way down as "To come to a level" tells it, by what nodeOf tells of the nodes. */
    private static int firstLeaf(Seen seen, int[] box) {
        int place = 0;
        for (int level = seen.levels.size() - 1; level > 0; level--) {
            int[] node = seen.levels.get(level).get(place);
            int best = node[5];
            int bestGrowth = Integer.MAX_VALUE;
            for (int below = node[5]; below < node[5] + node[4]; below++) {
                int[] next = seen.levels.get(level - 1).get(below);
                int growth = area(around(next, box)) - area(next);
                if (growth < bestGrowth || growth == bestGrowth && area(next) < area(seen.levels.get(level - 1).get(best))) {
                    best = below;
                    bestGrowth = growth;
                }
            }
            place = best;
        }
        return place;
    }

    private static void puts(String run, List<int[]> changes, Seen seen) {
        int box = seen.pickBox(false);
        int[] s = pickSides(1 + pick(30));
        if (box < 0) {
            Checks.sentence("NOT_POSSIBLE if there are 31 boxes.");
            Checks.due(run + "would", made(changes).would(s[0], s[1], s[2], s[3], 0), Checks.NOT_POSSIBLE);
            return;
        }
        BoxCourt x = made(changes);
        BoxCourt y = made(changes);
        int leaf = firstLeaf(seen, s);
        Checks.sentence("0: the place of the leaf to which it would come first");
        Checks.due(run + "would 0", x.would(s[0], s[1], s[2], s[3], 0), leaf);
        Checks.sentence("1: 1 if this leaf would be too full, otherwise 0;");
        Checks.due(run + "would 1", x.would(s[0], s[1], s[2], s[3], 1), seen.levels.get(0).get(leaf)[4] == 4 ? 1 : 0);
        int levels = y.put(box, s[0], s[1], s[2], s[3]);
        Checks.sentence("Tells what would be if a box was put.");
        Checks.due(run + "would 2", x.would(s[0], s[1], s[2], s[3], 2), y.count(4));
        Checks.due(run + "would 3", x.would(s[0], s[1], s[2], s[3], 3), levels);
        Checks.due(run + "would 4", x.would(s[0], s[1], s[2], s[3], 4), y.overlaps(0));
        Checks.sentence("Puts a box.");
        Checks.due(run + "box put: sides", Arrays.toString(new int[] {y.boxOf(box, 0), y.boxOf(box, 1), y.boxOf(box, 2),
            y.boxOf(box, 3)}), Arrays.toString(s));
        if (seen.levels.get(0).get(leaf)[4] < 4) {
            Checks.sentence("At the node of the level the thing comes to the end of the row.");
            Checks.due(run + "its leaf", y.boxOf(box, 4), leaf);
            Checks.due(run + "its place in the row", y.boxOf(box, 5), seen.levels.get(0).get(leaf)[4]);
            Checks.due(run + "courts", y.count(4), 0);
            Checks.due(run + "splits", y.count(6), x.count(6));
        }
        howNodesChange(run + "put: ", x, y);
    }

    private static void takes(String run, List<int[]> changes, Seen seen) {
        int box = seen.pickBox(true);
        if (box < 0) {
            return;
        }
        BoxCourt x = made(changes);
        BoxCourt y = made(changes);
        int levels = y.take(box);
        Checks.sentence("Tells what would be if a box was taken out.");
        Checks.due(run + "wouldTake 0", x.wouldTake(box, 0), y.count(7) - x.count(7));
        Checks.due(run + "wouldTake 1", x.wouldTake(box, 1), y.count(4));
        Checks.due(run + "wouldTake 2", x.wouldTake(box, 2), levels);
        Checks.due(run + "wouldTake 3", x.wouldTake(box, 3), y.overlaps(0));
        Checks.sentence("Takes a box out.");
        Checks.due(run + "box taken", y.boxOf(box, 0), Checks.NOT_FOUND);
        int size = seen.levels.get(0).get(seen.boxes[box][4])[4];
        if (seen.levels.size() > 1) {
            Checks.sentence("a node that has fewer than 2 things is taken out of the row of the node above");
            Checks.due(run + "orphans of a leaf of " + size, y.count(7) > x.count(7) ? 1 : 0, size == 2 ? 1 : 0);
        }
        howNodesChange(run + "take: ", x, y);
    }

    /** A split makes a node, a new root one more; an orphan's node goes, and so does a root with one node alone. */
    private static void howNodesChange(String run, BoxCourt x, BoxCourt y) {
        Checks.sentence("5: courts so far; 6: splits so far; 7: orphans so far;");
        Checks.due(run + "courts so far", y.count(5), x.count(5) + y.count(4));
        Checks.due(run + "nodes by splits, orphans and levels", y.count(2) - x.count(2),
                y.count(6) - x.count(6) - (y.count(7) - x.count(7)) + y.count(1) - x.count(1));
        String[] courts = Checks.courts(y).split(" ");
        Checks.sentence("1: how many boxes were in, or below, both things that were taken out");
        for (int i = 0; i < courts.length && !courts[i].isEmpty(); i++) {
            boolean isLeaf = courts[i].startsWith("0:");
            int boxes = y.court(i, 1);
            Checks.due(run + "court " + courts[i], isLeaf ? 2 : Math.max(4, Math.min(29, boxes)), boxes);
        }
    }

    /** All but the text, the courts of the latest time and the states themselves. */
    private static String kept(BoxCourt x) {
        return x.count(5) + " " + x.count(6) + " " + x.count(7) + " " + new Seen(x).told();
    }

    private static void undos(String run, List<int[]> changes, Seen seen) {
        int box = pick(Checks.BOXES);
        int[] s = pickSides(20);
        int[] next = seen.boxes[box] == null ? new int[] {box, s[0], s[1], s[2], s[3]} : new int[] {box};
        BoxCourt x = made(changes);
        int states = x.count(8);
        change(x, next);
        Checks.sentence("A history of at most 4 states is kept");
        Checks.due(run + "states", x.count(8), Math.min(4, states + 1));
        String courts = Checks.courts(x);
        int courtsThen = x.count(4);
        x.type('-');
        Checks.sentence("Returns the number of states that are left in the history");
        Checks.due(run + "undo", x.undo(), Math.min(4, states + 1) - 1);
        Checks.sentence("(which undo() does not change back)");
        Checks.due(run + "courts after undo", Checks.courts(x), courts);
        Checks.sentence("4: courts of the latest putting or taking out, as court() tells them;");
        Checks.due(run + "count(4) after undo", x.count(4), courtsThen);
        undosWithCourt += courtsThen > 0 ? 1 : 0;
        Checks.sentence("each change records everything before it but the text");
        Checks.due(run + "the text after undo", x.count(9), 1);
        Checks.due(run + "what undo restores", kept(x), kept(made(changes)));
    }

    /** The orders of a text do what the calls do, one after another. */
    private static void plays(String run, List<int[]> changes, Seen seen) {
        BoxCourt x = made(changes);
        BoxCourt y = made(changes);
        boolean[] there = new boolean[Checks.BOXES];
        for (int box = 0; box < Checks.BOXES; box++) {
            there[box] = seen.boxes[box] != null;
        }
        StringBuilder text = new StringBuilder();
        int orders = 0;
        for (int i = 0; i < 20; i++) {
            int box = pick(Checks.BOXES);
            int[] s = pickSides(9);
            String order = there[box] ? "-" + box + ";"
                    : "+" + box + "," + s[0] + "," + s[1] + "," + s[2] + "," + s[3] + ";";
            if (text.length() + order.length() <= 60) {
                text.append(order);
                change(y, there[box] ? new int[] {box} : new int[] {box, s[0], s[1], s[2], s[3]});
                there[box] = !there[box];
                orders++;
            }
        }
        Checks.write(x, text.toString());
        int states = x.count(8);
        Checks.sentence("Does all orders of the text, which stays.");
        Checks.due(run + "fault of " + text, x.fault(0), Checks.NOT_FOUND);
        Checks.due(run + "play of " + text, x.play(), orders);
        Checks.due(run + "length of the text", x.count(9), text.length());
        Checks.sentence("They are one change");
        Checks.due(run + "states", x.count(8), Math.min(4, states + 1));
        Checks.sentence("order of a text that put or took a box out");
        Checks.due(run + "courts", Checks.courts(x), Checks.courts(y));
        Checks.sentence("Does all orders of the text, which stays.");
        Checks.due(run + "what " + text + " did", kept(x), kept(y));
    }

    private static void look(int run) {
        seed = run * 7919L + 5;
        pick(2);
        List<int[]> changes = pickChanges(run);
        String name = "run " + run + ": ";
        Seen seen = new Seen(made(changes));
        rows(name, seen);
        sizes(name, seen);
        frames(name, seen);
        sums(name, made(changes), seen);
        pairs(name, made(changes), seen);
        windows(name, made(changes), seen);
        nearest(name, made(changes), seen);
        puts(name, changes, seen);
        takes(name, changes, seen);
        undos(name, changes, seen);
        plays(name, changes, seen);
    }

    public static void main(String[] args) {
        for (int run = 0; run < RUNS; run++) {
            look(run);
        }
        Checks.sentence("");
        Checks.due("some of the runs undo a change with a court", undosWithCourt > 10 ? 1 : 0, 1);
        Checks.due("some of the runs have three levels", mostLevels > 2 ? 1 : 0, 1);
        Checks.end("RelationsTest");
    }
}
