import java.util.Arrays;

/** Boxes in a tree of nodes, put in, taken out and looked for, as ../shared/DOC.md tells. */
public final class BoxCourt {
    public static final int INVALID_ARGUMENT = -1000001;
    public static final int NOT_POSSIBLE = -1000002;
    public static final int LIMIT_REACHED = -1000003;
    public static final int NOT_FOUND = -1000004;

    private static final int NONE = -1;
    private static final int BOXES = 31;
    private static final int LAST_POINT = 99;
    private static final int LEAST = 2;
    private static final int FULL = 4;
    /** A row has room for the one thing by which its node is too full. */
    private static final int ROOM = 5;
    /** 31 boxes fill at most 15 leaves, 7 and 3 nodes above them and a root: 32 nodes are never all used. */
    private static final int NODES = 32;
    /** 31 boxes make at most 4 levels; what climbs or goes down the tree ends here at the latest. */
    private static final int LEVELS = 8;
    /** A putting or taking out has at most one court for each level and insertion. */
    private static final int COURTS = LEVELS * LEVELS;
    /** By x or by y, and the first two or the first three. */
    private static final int WAYS = 4;
    private static final int STATES = 4;
    private static final int SIGNS = 60;
    private static final int NUMBERS = 5;

    private final Tree tree;
    private final Survey survey;
    private final Change change;
    private final Tree trialTree;
    private final Survey trialSurvey;
    private final Change trial;
    private final History history;
    private final Orders text;
    private final int[] ranks;

    public BoxCourt() {
        tree = new Tree();
        survey = new Survey(tree);
        change = new Change(tree, survey);
        trialTree = new Tree();
        trialSurvey = new Survey(trialTree);
        trial = new Change(trialTree, trialSurvey);
        history = new History();
        text = new Orders();
        ranks = new int[BOXES];
    }

    // ---- putting and taking out

    public int put(int box, int lowX, int lowY, int highX, int highY) {
        if (!isBox(box) || !isWindow(lowX, lowY, highX, highY)) {
            return INVALID_ARGUMENT;
        }
        if (tree.has(box)) {
            return NOT_POSSIBLE;
        }
        history.record(tree);
        change.bringIn(box, Box.of(lowX, lowY, highX, highY));
        return tree.height();
    }

    public int take(int box) {
        if (!isBox(box)) {
            return INVALID_ARGUMENT;
        }
        if (!tree.has(box)) {
            return NOT_POSSIBLE;
        }
        history.record(tree);
        change.takeOut(box);
        return tree.height();
    }

    // ---- what there is

    public int boxOf(int box, int what) {
        if (!isBox(box) || !isUpTo(what, 5)) {
            return INVALID_ARGUMENT;
        }
        if (!tree.has(box)) {
            return NOT_FOUND;
        }
        int leaf = tree.homeOf(box);
        if (what == 4) {
            return survey.placeOf(leaf);
        }
        return what == 5 ? tree.placeIn(leaf, box) : Box.side(tree.hull(box, 0), what);
    }

    public int nodeOf(int level, int place, int what) {
        if (level < 0 || place < 0 || !isUpTo(what, 5)) {
            return INVALID_ARGUMENT;
        }
        int node = survey.nodeAt(level, place);
        if (node == NONE) {
            return NOT_FOUND;
        }
        int size = tree.sizeOf(node);
        if (what == 4) {
            return size;
        }
        if (what == 5) {
            return level == 0 ? tree.boxesOfLeaf(node) : survey.placeOf(tree.thingAt(node, 0));
        }
        return size == 0 ? NOT_FOUND : Box.side(tree.hull(node, level + 1), what);
    }

    public int overlaps(int level) {
        if (level < 0) {
            return INVALID_ARGUMENT;
        }
        return level < tree.height() ? survey.overlapsOf(level) : NOT_FOUND;
    }

    public int overlap(int one, int other) {
        if (!isBox(one) || !isBox(other)) {
            return INVALID_ARGUMENT;
        }
        if (!tree.has(one) || !tree.has(other)) {
            return NOT_FOUND;
        }
        return Box.common(tree.hull(one, 0), tree.hull(other, 0));
    }

    public int court(int index, int what) {
        if (index < 0 || !isUpTo(what, 1)) {
            return INVALID_ARGUMENT;
        }
        if (index >= change.courts) {
            return NOT_FOUND;
        }
        return what == 0 ? change.courtLevel(index) : change.courtBoxes(index);
    }

    // ---- looking

    public int window(int lowX, int lowY, int highX, int highY, int what) {
        if (!isWindow(lowX, lowY, highX, highY) || !isUpTo(what, 1)) {
            return INVALID_ARGUMENT;
        }
        int window = Box.of(lowX, lowY, highX, highY);
        return what == 0 ? tree.boxesTouching(window) : survey.nodesTouching(window);
    }

    public int nearest(int x, int y, int index, int what) {
        if (!isPoint(x) || !isPoint(y) || index < 0 || !isUpTo(what, 2)) {
            return INVALID_ARGUMENT;
        }
        int box = boxOfRank(x, y, index);
        if (box == NONE) {
            return NOT_FOUND;
        }
        if (what == 0) {
            return box;
        }
        int distance = Box.distance(tree.hull(box, 0), x, y);
        return what == 1 ? distance : survey.nodesWithin(x, y, distance);
    }

    public int would(int lowX, int lowY, int highX, int highY, int what) {
        if (!isWindow(lowX, lowY, highX, highY) || !isUpTo(what, 4)) {
            return INVALID_ARGUMENT;
        }
        int free = tree.freeNumber();
        if (free == NONE) {
            return NOT_POSSIBLE;
        }
        int box = Box.of(lowX, lowY, highX, highY);
        int leaf = tree.nodeFor(box, 0);
        if (what == 0) {
            return survey.placeOf(leaf);
        }
        if (what == 1) {
            return tree.sizeOf(leaf) < FULL ? 0 : 1;
        }
        trialTree.copy(tree);
        trial.bringIn(free, box);
        if (what == 2) {
            return trial.courts;
        }
        return what == 3 ? trialTree.height() : trialSurvey.overlapsOf(0);
    }

    public int wouldTake(int box, int what) {
        if (!isBox(box) || !isUpTo(what, 3)) {
            return INVALID_ARGUMENT;
        }
        if (!tree.has(box)) {
            return NOT_FOUND;
        }
        trialTree.copy(tree);
        trial.takeOut(box);
        if (what == 0) {
            return trialTree.orphans - tree.orphans;
        }
        if (what == 1) {
            return trial.courts;
        }
        return what == 2 ? trialTree.height() : trialSurvey.overlapsOf(0);
    }

    public int count(int what) {
        switch (what) {
            case 0: return Integer.bitCount(tree.boxSet());
            case 1: return tree.height();
            case 2: return survey.nodes();
            case 3: return survey.leaves();
            case 4: return change.courts;
            case 5: return tree.courts;
            case 6: return tree.splits;
            case 7: return tree.orphans;
            case 8: return history.count;
            case 9: return text.length;
            case 10: return survey.areaOfLeaves();
            default: return INVALID_ARGUMENT;
        }
    }

    public int undo() {
        if (history.count == 0) {
            return NOT_POSSIBLE;
        }
        history.restore(tree);
        return history.count;
    }

    // ---- texts

    public int type(int character) {
        if (character < 32 || character > 126) {
            return INVALID_ARGUMENT;
        }
        if (text.length >= SIGNS) {
            return LIMIT_REACHED;
        }
        text.append(character);
        return text.length;
    }

    public int clearText() {
        int length = text.length;
        text.length = 0;
        return length;
    }

    public int fault(int what) {
        if (!isUpTo(what, 2)) {
            return INVALID_ARGUMENT;
        }
        text.examine(tree.boxSet());
        if (text.reason == 0) {
            return NOT_FOUND;
        }
        if (what == 0) {
            return text.place;
        }
        if (what == 1) {
            return text.reason;
        }
        return text.cause == NONE ? NOT_FOUND : text.cause;
    }

    public int play() {
        text.examine(tree.boxSet());
        if (text.reason != 0) {
            return NOT_POSSIBLE;
        }
        history.record(tree);
        int start = 0;
        for (int order = 0; order < text.orders; order++) {
            text.read(start);
            start = text.at;
            if (text.puts) {
                change.bringIn(text.number(0),
                        Box.of(text.number(1), text.number(2), text.number(3), text.number(4)));
            } else {
                change.takeOut(text.number(0));
            }
        }
        return text.orders;
    }

    private static boolean isUpTo(int number, int last) {
        return number >= 0 && number <= last;
    }

    private static boolean isBox(int box) {
        return isUpTo(box, BOXES - 1);
    }

    private static boolean isPoint(int coordinate) {
        return isUpTo(coordinate, LAST_POINT);
    }

    private static boolean isWindow(int lowX, int lowY, int highX, int highY) {
        return isPoint(lowX) && isPoint(lowY) && isPoint(highX) && isPoint(highY)
                && lowX <= highX && lowY <= highY;
    }

    /** The box with this index by distance, of several by number: both in one number, so that no two are alike. */
    private int boxOfRank(int x, int y, int index) {
        for (int box = 0; box < BOXES; box++) {
            int rank = tree.has(box) ? Box.distance(tree.hull(box, 0), x, y) * BOXES + box : NONE;
            Rows.set(ranks, box, rank);
        }
        for (int box = 0; box < BOXES; box++) {
            int rank = Rows.at(ranks, box);
            if (rank != NONE && ranksAhead(rank) == index) {
                return box;
            }
        }
        return NONE;
    }

    private int ranksAhead(int rank) {
        int ahead = 0;
        for (int other : ranks) {
            if (other != NONE && other < rank) {
                ahead++;
            }
        }
        return ahead;
    }

    /** Rows of numbers, read and written only where they have an element. */
    private static final class Rows {
        static int at(int[] row, int index) {
            return index >= 0 && index < row.length ? row[index] : NONE;
        }

        static void set(int[] row, int index, int value) {
            if (index >= 0 && index < row.length) {
                row[index] = value;
            }
        }
    }

    /**
     * A box is one number, 7 bits for each of its four sides, so that no object is made for it;
     * NONE is the box around nothing.
     */
    private static final class Box {
        static int of(int lowX, int lowY, int highX, int highY) {
            return lowX | lowY << 7 | highX << 14 | highY << 21;
        }

        /** 0: low x; 1: low y; 2: high x; 3: high y. */
        static int side(int box, int what) {
            return box >> 7 * what & 127;
        }

        static int area(int box) {
            return box == NONE ? 0 : (side(box, 2) - side(box, 0)) * (side(box, 3) - side(box, 1));
        }

        static int around(int one, int other) {
            if (one == NONE || other == NONE) {
                return one == NONE ? other : one;
            }
            return of(Math.min(side(one, 0), side(other, 0)), Math.min(side(one, 1), side(other, 1)),
                    Math.max(side(one, 2), side(other, 2)), Math.max(side(one, 3), side(other, 3)));
        }

        static boolean touch(int one, int other) {
            return one != NONE && other != NONE
                    && side(one, 0) <= side(other, 2) && side(other, 0) <= side(one, 2)
                    && side(one, 1) <= side(other, 3) && side(other, 1) <= side(one, 3);
        }

        /** The area of what both have in common. */
        static int common(int one, int other) {
            if (!touch(one, other)) {
                return 0;
            }
            int width = Math.min(side(one, 2), side(other, 2)) - Math.max(side(one, 0), side(other, 0));
            int height = Math.min(side(one, 3), side(other, 3)) - Math.max(side(one, 1), side(other, 1));
            return width * height;
        }

        /** The square of the distance of a point from a box, which is not NONE. */
        static int distance(int box, int x, int y) {
            int wide = Math.max(0, Math.max(side(box, 0) - x, x - side(box, 2)));
            int high = Math.max(0, Math.max(side(box, 1) - y, y - side(box, 3)));
            return wide * wide + high * high;
        }

        /** Four times the square of the distance of both middles: with twice the middles no halves are left. */
        static int apart(int one, int other) {
            int wide = side(one, 0) + side(one, 2) - side(other, 0) - side(other, 2);
            int high = side(one, 1) + side(one, 3) - side(other, 1) - side(other, 3);
            return wide * wide + high * high;
        }

        /** Orders boxes by low x, then high x (axis 0), or by low y, then high y (axis 1). */
        static int key(int box, int axis) {
            return side(box, axis) << 7 | side(box, axis + 2);
        }
    }

    /**
     * The boxes and nodes, and what has been counted: all that the history keeps. A thing is the
     * number of a box in the row of a leaf, and the number of a node in any other row.
     */
    private static final class Tree {
        private final int[] boxes = new int[BOXES];
        private final int[] homes = new int[BOXES];
        private final int[] levels = new int[NODES];
        private final int[] sizes = new int[NODES];
        private final int[] hulls = new int[NODES];
        private final int[] aboves = new int[NODES];
        private final int[] rows = new int[NODES * ROOM];
        private int root;
        private int courts;
        private int splits;
        private int orphans;

        Tree() {
            Arrays.fill(boxes, NONE);
            Arrays.fill(homes, NONE);
            Arrays.fill(levels, NONE);
            Arrays.fill(hulls, NONE);
            Arrays.fill(aboves, NONE);
            Arrays.fill(rows, NONE);
            root = newNode(0);
        }

        void copy(Tree other) {
            System.arraycopy(other.boxes, 0, boxes, 0, BOXES);
            System.arraycopy(other.homes, 0, homes, 0, BOXES);
            System.arraycopy(other.levels, 0, levels, 0, NODES);
            System.arraycopy(other.sizes, 0, sizes, 0, NODES);
            System.arraycopy(other.hulls, 0, hulls, 0, NODES);
            System.arraycopy(other.aboves, 0, aboves, 0, NODES);
            System.arraycopy(other.rows, 0, rows, 0, NODES * ROOM);
            root = other.root;
            courts = other.courts;
            splits = other.splits;
            orphans = other.orphans;
        }

        boolean has(int box) {
            return Rows.at(boxes, box) != NONE;
        }

        int homeOf(int box) {
            return Rows.at(homes, box);
        }

        int levelOf(int node) {
            return Rows.at(levels, node);
        }

        int sizeOf(int node) {
            return Rows.at(sizes, node);
        }

        int aboveOf(int node) {
            return Rows.at(aboves, node);
        }

        int height() {
            return levelOf(root) + 1;
        }

        int thingAt(int node, int place) {
            return place >= 0 && place < ROOM ? Rows.at(rows, node * ROOM + place) : NONE;
        }

        /** The box of a thing that is, or could be, in a node of this level. */
        int hull(int thing, int level) {
            return Rows.at(level == 0 ? boxes : hulls, thing);
        }

        int placeIn(int node, int thing) {
            for (int place = 0; place < sizeOf(node); place++) {
                if (thingAt(node, place) == thing) {
                    return place;
                }
            }
            return NONE;
        }

        int boxSet() {
            int set = 0;
            for (int box = 0; box < BOXES; box++) {
                if (has(box)) {
                    set |= 1 << box;
                }
            }
            return set;
        }

        int boxesOfLeaf(int leaf) {
            int set = 0;
            for (int place = 0; place < sizeOf(leaf); place++) {
                set |= 1 << thingAt(leaf, place);
            }
            return set;
        }

        int boxesTouching(int window) {
            int set = 0;
            for (int box = 0; box < BOXES; box++) {
                if (Box.touch(hull(box, 0), window)) {
                    set |= 1 << box;
                }
            }
            return set;
        }

        int freeNumber() {
            for (int box = 0; box < BOXES; box++) {
                if (!has(box)) {
                    return box;
                }
            }
            return NONE;
        }

        /** The node of this level to which a thing with this box comes. */
        int nodeFor(int box, int level) {
            int node = root;
            for (int step = 0; step < LEVELS && levelOf(node) > level; step++) {
                node = leastGreater(node, box);
            }
            return node;
        }

        private int leastGreater(int node, int box) {
            int best = NONE;
            int bestGrowth = 0;
            int bestArea = 0;
            for (int place = 0; place < sizeOf(node); place++) {
                int below = thingAt(node, place);
                int hull = Rows.at(hulls, below);
                int area = Box.area(hull);
                int growth = Box.area(Box.around(hull, box)) - area;
                if (best == NONE || growth < bestGrowth || growth == bestGrowth && area < bestArea) {
                    best = below;
                    bestGrowth = growth;
                    bestArea = area;
                }
            }
            return best;
        }

        void setBox(int box, int hull) {
            Rows.set(boxes, box, hull);
        }

        void add(int node, int place, int thing) {
            int size = sizeOf(node);
            if (size < 0 || size >= ROOM || place < 0 || place > size) {
                return;
            }
            int start = node * ROOM;
            for (int i = size; i > place; i--) {
                Rows.set(rows, start + i, Rows.at(rows, start + i - 1));
            }
            Rows.set(rows, start + place, thing);
            Rows.set(sizes, node, size + 1);
            Rows.set(levelOf(node) == 0 ? homes : aboves, thing, node);
        }

        void remove(int node, int place) {
            int size = sizeOf(node);
            if (place < 0 || place >= size) {
                return;
            }
            int start = node * ROOM;
            Rows.set(levelOf(node) == 0 ? homes : aboves, thingAt(node, place), NONE);
            for (int i = place; i < size - 1; i++) {
                Rows.set(rows, start + i, Rows.at(rows, start + i + 1));
            }
            Rows.set(rows, start + size - 1, NONE);
            Rows.set(sizes, node, size - 1);
        }

        /** Makes the boxes of this node and of all above it just large enough. */
        void refresh(int node) {
            int at = node;
            for (int step = 0; step < LEVELS && at != NONE; step++) {
                int level = levelOf(at);
                int hull = NONE;
                for (int place = 0; place < sizeOf(at); place++) {
                    hull = Box.around(hull, hull(thingAt(at, place), level));
                }
                Rows.set(hulls, at, hull);
                at = aboveOf(at);
            }
        }

        int newNode(int level) {
            for (int node = 0; node < NODES; node++) {
                if (levelOf(node) == NONE) {
                    Rows.set(levels, node, level);
                    return node;
                }
            }
            return NONE;
        }

        void clearRow(int node) {
            for (int place = sizeOf(node) - 1; place >= 0; place--) {
                remove(node, place);
            }
        }

        void drop(int node) {
            clearRow(node);
            Rows.set(levels, node, NONE);
            Rows.set(hulls, node, NONE);
            Rows.set(aboves, node, NONE);
        }

        void raiseRoot() {
            int old = root;
            root = newNode(levelOf(old) + 1);
            add(root, 0, old);
        }

        void lowerRoot() {
            for (int step = 0; step < LEVELS && levelOf(root) > 0 && sizeOf(root) == 1; step++) {
                int old = root;
                root = thingAt(old, 0);
                drop(old);
            }
        }
    }

    /** Goes through the nodes of a tree, those of a higher level first, each level by its places. */
    private static final class Survey {
        private final Tree tree;
        private final int[] seen = new int[NODES];
        private int count;

        Survey(Tree tree) {
            this.tree = tree;
        }

        private void lookFrom(int top) {
            count = 0;
            note(top);
            for (int i = 0; i < NODES && i < count; i++) {
                int node = Rows.at(seen, i);
                int size = tree.levelOf(node) > 0 ? tree.sizeOf(node) : 0;
                for (int place = 0; place < size; place++) {
                    note(tree.thingAt(node, place));
                }
            }
        }

        private void note(int node) {
            if (count < NODES) {
                Rows.set(seen, count, node);
                count++;
            }
        }

        private int nodeSeen(int i) {
            return Rows.at(seen, i);
        }

        private int hullSeen(int i) {
            return Rows.at(tree.hulls, nodeSeen(i));
        }

        private int levelSeen(int i) {
            return tree.levelOf(nodeSeen(i));
        }

        int nodes() {
            lookFrom(tree.root);
            return count;
        }

        int leaves() {
            lookFrom(tree.root);
            int leaves = 0;
            for (int i = 0; i < count; i++) {
                if (levelSeen(i) == 0) {
                    leaves++;
                }
            }
            return leaves;
        }

        int nodeAt(int level, int place) {
            lookFrom(tree.root);
            int ahead = 0;
            for (int i = 0; i < count; i++) {
                if (levelSeen(i) == level) {
                    if (ahead == place) {
                        return nodeSeen(i);
                    }
                    ahead++;
                }
            }
            return NONE;
        }

        int placeOf(int node) {
            lookFrom(tree.root);
            int level = tree.levelOf(node);
            int ahead = 0;
            for (int i = 0; i < count && nodeSeen(i) != node; i++) {
                if (levelSeen(i) == level) {
                    ahead++;
                }
            }
            return ahead;
        }

        int overlapsOf(int level) {
            lookFrom(tree.root);
            int sum = 0;
            for (int i = 0; i < count; i++) {
                for (int j = i + 1; j < count && levelSeen(i) == level; j++) {
                    if (levelSeen(j) == level) {
                        sum += Box.common(hullSeen(i), hullSeen(j));
                    }
                }
            }
            return sum;
        }

        int areaOfLeaves() {
            lookFrom(tree.root);
            int sum = 0;
            for (int i = 0; i < count; i++) {
                if (levelSeen(i) == 0) {
                    sum += Box.area(hullSeen(i));
                }
            }
            return sum;
        }

        int nodesTouching(int window) {
            lookFrom(tree.root);
            int touching = 0;
            for (int i = 0; i < count; i++) {
                if (Box.touch(hullSeen(i), window)) {
                    touching++;
                }
            }
            return touching;
        }

        int nodesWithin(int x, int y, int distance) {
            lookFrom(tree.root);
            int within = 0;
            for (int i = 0; i < count; i++) {
                if (hullSeen(i) != NONE && Box.distance(hullSeen(i), x, y) <= distance) {
                    within++;
                }
            }
            return within;
        }

        int boxesBelow(int top) {
            lookFrom(top);
            int sum = 0;
            for (int i = 0; i < count; i++) {
                if (levelSeen(i) == 0) {
                    sum += tree.sizeOf(nodeSeen(i));
                }
            }
            return sum;
        }
    }

    /** Puts boxes into a tree and takes them out of it, and tells the courts of the latest time. */
    private static final class Change {
        private final Tree tree;
        private final Survey survey;
        /** Things that have yet to come to a level, the next one last. */
        private final int[] waiting = new int[COURTS];
        private final int[] waitingLevels = new int[COURTS];
        private int waits;
        /** The levels at which there was a court during this insertion, as bits. */
        private int courtSet;
        private final int[] courtLevels = new int[COURTS];
        private final int[] courtBoxes = new int[COURTS];
        private int courts;
        /** The orphan of each level. */
        private final int[] orphans = new int[LEVELS];
        /** The things of a node that is split, in order, with their boxes. */
        private final int[] things = new int[ROOM];
        private final int[] hulls = new int[ROOM];

        Change(Tree tree, Survey survey) {
            this.tree = tree;
            this.survey = survey;
        }

        int courtLevel(int index) {
            return Rows.at(courtLevels, index);
        }

        int courtBoxes(int index) {
            return Rows.at(courtBoxes, index);
        }

        void bringIn(int box, int hull) {
            courts = 0;
            tree.setBox(box, hull);
            insert(box, 0);
        }

        void takeOut(int box) {
            courts = 0;
            int leaf = tree.homeOf(box);
            tree.remove(leaf, tree.placeIn(leaf, box));
            tree.setBox(box, NONE);
            tree.refresh(leaf);
            dissolveFrom(leaf);
            for (int level = LEVELS - 1; level >= 0; level--) {
                int orphan = Rows.at(orphans, level);
                if (orphan != NONE) {
                    tree.orphans++;
                    insert(orphan, level);
                }
            }
            tree.lowerRoot();
        }

        /** Takes out the nodes on the way up that have too few things, and notes the orphans. */
        private void dissolveFrom(int leaf) {
            Arrays.fill(orphans, NONE);
            int node = leaf;
            for (int step = 0; step < LEVELS && node != NONE && node != tree.root; step++) {
                int above = tree.aboveOf(node);
                if (tree.sizeOf(node) < LEAST) {
                    Rows.set(orphans, tree.levelOf(node), tree.thingAt(node, 0));
                    tree.remove(above, tree.placeIn(above, node));
                    tree.drop(node);
                    tree.refresh(above);
                }
                node = above;
            }
        }

        /**
         * One insertion. What a court sends comes with all that follows of it before the next one
         * does, so a stack of those that wait does what a recursion would.
         */
        private void insert(int thing, int level) {
            courtSet = 0;
            waits = 0;
            await(thing, level);
            for (int turn = 0; turn < COURTS && waits > 0; turn++) {
                waits--;
                int next = Rows.at(waiting, waits);
                int goal = Rows.at(waitingLevels, waits);
                int node = tree.nodeFor(tree.hull(next, goal), goal);
                tree.add(node, tree.sizeOf(node), next);
                tree.refresh(node);
                for (int step = 0; step < LEVELS && tree.sizeOf(node) > FULL; step++) {
                    node = courtIsDue(node) ? holdCourt(node) : split(node);
                }
            }
        }

        private void await(int thing, int level) {
            if (waits < COURTS) {
                Rows.set(waiting, waits, thing);
                Rows.set(waitingLevels, waits, level);
                waits++;
            }
        }

        private boolean courtIsDue(int node) {
            return node != tree.root && (courtSet >> tree.levelOf(node) & 1) == 0;
        }

        /** Of two that are equally far the later one is the farther one, so it also comes last anew. */
        private int holdCourt(int node) {
            int level = tree.levelOf(node);
            int far = farthest(node, NONE);
            int near = farthest(node, far);
            int farThing = tree.thingAt(node, far);
            int nearThing = tree.thingAt(node, near);
            courtSet |= 1 << level;
            noteCourt(level, level == 0 ? 2 : survey.boxesBelow(farThing) + survey.boxesBelow(nearThing));
            tree.remove(node, Math.max(far, near));
            tree.remove(node, Math.min(far, near));
            tree.refresh(node);
            await(farThing, level);
            await(nearThing, level);
            return node;
        }

        private int farthest(int node, int except) {
            int level = tree.levelOf(node);
            int all = Rows.at(tree.hulls, node);
            int best = NONE;
            int bestApart = 0;
            for (int place = 0; place < tree.sizeOf(node); place++) {
                int apart = Box.apart(tree.hull(tree.thingAt(node, place), level), all);
                if (place != except && apart >= bestApart) {
                    best = place;
                    bestApart = apart;
                }
            }
            return best;
        }

        private void noteCourt(int level, int boxes) {
            tree.courts++;
            if (courts < COURTS) {
                Rows.set(courtLevels, courts, level);
                Rows.set(courtBoxes, courts, boxes);
                courts++;
            }
        }

        /** Returns the node above, which may be too full then. */
        private int split(int node) {
            int way = bestWay(node);
            int cut = cutOf(way);
            arrange(node, axisOf(way));
            int twin = tree.newNode(tree.levelOf(node));
            tree.clearRow(node);
            for (int i = 0; i < ROOM; i++) {
                int part = i < cut ? node : twin;
                tree.add(part, tree.sizeOf(part), Rows.at(things, i));
            }
            if (node == tree.root) {
                tree.raiseRoot();
            }
            int above = tree.aboveOf(node);
            tree.add(above, tree.placeIn(above, node) + 1, twin);
            tree.refresh(node);
            tree.refresh(twin);
            tree.splits++;
            return above;
        }

        private static int axisOf(int way) {
            return way >> 1;
        }

        private static int cutOf(int way) {
            return LEAST + (way & 1);
        }

        private int bestWay(int node) {
            int best = NONE;
            int bestCommon = 0;
            int bestArea = 0;
            for (int way = 0; way < WAYS; way++) {
                arrange(node, axisOf(way));
                int first = hullOfPart(0, cutOf(way));
                int second = hullOfPart(cutOf(way), ROOM);
                int common = Box.common(first, second);
                int area = Box.area(first) + Box.area(second);
                if (best == NONE || common < bestCommon || common == bestCommon && area < bestArea) {
                    best = way;
                    bestCommon = common;
                    bestArea = area;
                }
            }
            return best;
        }

        private int hullOfPart(int from, int to) {
            int hull = NONE;
            for (int i = from; i < to; i++) {
                hull = Box.around(hull, Rows.at(hulls, i));
            }
            return hull;
        }

        private void arrange(int node, int axis) {
            int level = tree.levelOf(node);
            for (int place = 0; place < ROOM; place++) {
                int thing = tree.thingAt(node, place);
                int hull = tree.hull(thing, level);
                int i = place;
                while (i > 0 && Box.key(Rows.at(hulls, i - 1), axis) > Box.key(hull, axis)) {
                    Rows.set(things, i, Rows.at(things, i - 1));
                    Rows.set(hulls, i, Rows.at(hulls, i - 1));
                    i--;
                }
                Rows.set(things, i, thing);
                Rows.set(hulls, i, hull);
            }
        }
    }

    /** The states that can be restored: trees used anew in a ring, from the oldest one on. */
    private static final class History {
        private final Tree[] states = new Tree[STATES];
        private int oldest;
        private int count;

        History() {
            for (int i = 0; i < states.length; i++) {
                states[i] = new Tree();
            }
        }

        void record(Tree tree) {
            if (count == STATES) {
                oldest = (oldest + 1) % STATES;
                count--;
            }
            Tree free = stateAt(count);
            if (free != null) {
                free.copy(tree);
                count++;
            }
        }

        void restore(Tree tree) {
            Tree latest = stateAt(count - 1);
            if (latest != null) {
                tree.copy(latest);
                count--;
            }
        }

        private Tree stateAt(int index) {
            int slot = (oldest + index) % STATES;
            return index >= 0 && slot >= 0 && slot < states.length ? states[slot] : null;
        }
    }

    /** The text: its orders, and its fault, which examine() finds. */
    private static final class Orders {
        private final int[] signs = new int[SIGNS];
        private int length;
        /** The order that was read last, and the position at which its reading ended. */
        private final int[] numbers = new int[NUMBERS];
        private boolean puts;
        private int at;
        /** How many orders are ahead of the fault, or in the text. */
        private int orders;
        private int place;
        private int reason;
        private int cause;

        void append(int sign) {
            if (length < SIGNS) {
                Rows.set(signs, length, sign);
                length++;
            }
        }

        int number(int index) {
            return Rows.at(numbers, index);
        }

        /** Whether a box is there depends on the orders ahead alone, so no tree is needed: a set of boxes does. */
        void examine(int boxSet) {
            int there = boxSet;
            orders = 0;
            place = 0;
            reason = 0;
            for (int turn = 0; turn < SIGNS && place < length; turn++) {
                reason = reasonAgainst(place, there);
                if (reason != 0) {
                    return;
                }
                there ^= 1 << number(0);
                orders++;
                place = at;
            }
        }

        private int reasonAgainst(int start, int there) {
            if (!read(start)) {
                cause = at - start;
                return 1;
            }
            cause = wrongNumber();
            if (cause != NONE) {
                return 2;
            }
            boolean isThere = (there >> number(0) & 1) == 1;
            return isThere == puts ? 3 : 0;
        }

        private int wrongNumber() {
            if (number(0) >= BOXES) {
                return 0;
            }
            if (puts && number(1) > number(3)) {
                return 1;
            }
            return puts && number(2) > number(4) ? 2 : NONE;
        }

        /** Whether there is an order; if not, `at` is where it breaks off. */
        boolean read(int start) {
            at = start;
            puts = signIs('+');
            if (!puts && !signIs('-')) {
                return false;
            }
            at++;
            int wanted = puts ? NUMBERS : 1;
            for (int i = 0; i < wanted; i++) {
                if (!readNumber(i) || !signIs(i == wanted - 1 ? ';' : ',')) {
                    return false;
                }
                at++;
            }
            return true;
        }

        private boolean readNumber(int index) {
            if (!signIsDigit()) {
                return false;
            }
            int number = Rows.at(signs, at) - '0';
            at++;
            if (signIsDigit()) {
                number = number * 10 + Rows.at(signs, at) - '0';
                at++;
            }
            Rows.set(numbers, index, number);
            return true;
        }

        private boolean signIs(int sign) {
            return at < length && Rows.at(signs, at) == sign;
        }

        private boolean signIsDigit() {
            return at < length && Rows.at(signs, at) >= '0' && Rows.at(signs, at) <= '9';
        }
    }
}
