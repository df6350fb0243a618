import java.util.ArrayList;
import java.util.Comparator;
import java.util.HashSet;
import java.util.List;
import java.util.Set;
import java.util.TreeMap;
import java.util.regex.Matcher;
import java.util.regex.Pattern;

/**
 * Compares BoxCourt with a second, slow writing of the document (objects, recursion, nothing kept
 * that can be worked out) over many runs of calls that an own row of numbers picks.
 */
public final class ModelTest {
    private static final int RUNS = 3000;
    private static final int CALLS = 512;

    private static long wrong = 0;
    private static long seed;

    private static final class Bx {
        final int number, lx, ly, hx, hy;

        Bx(int number, int lx, int ly, int hx, int hy) {
            this.number = number;
            this.lx = lx;
            this.ly = ly;
            this.hx = hx;
            this.hy = hy;
        }

        int area() {
            return (hx - lx) * (hy - ly);
        }

        Bx with(Bx o) {
            return new Bx(-1, Math.min(lx, o.lx), Math.min(ly, o.ly), Math.max(hx, o.hx), Math.max(hy, o.hy));
        }

        boolean meets(Bx o) {
            return !(hx < o.lx || o.hx < lx || hy < o.ly || o.hy < ly);
        }

        int shared(Bx o) {
            if (!meets(o)) {
                return 0;
            }
            return new Bx(-1, Math.max(lx, o.lx), Math.max(ly, o.ly), Math.min(hx, o.hx), Math.min(hy, o.hy)).area();
        }

        int square(int x, int y) {
            int dx = x < lx ? lx - x : x > hx ? x - hx : 0;
            int dy = y < ly ? ly - y : y > hy ? y - hy : 0;
            return dx * dx + dy * dy;
        }

        double middleSquare(Bx o) {
            double dx = (lx + hx) / 2.0 - (o.lx + o.hx) / 2.0;
            double dy = (ly + hy) / 2.0 - (o.ly + o.hy) / 2.0;
            return dx * dx + dy * dy;
        }

        int side(int what) {
            return new int[] {lx, ly, hx, hy}[what];
        }
    }

    private static final class Nd {
        final int level;
        final List<Object> row = new ArrayList<>();

        Nd(int level) {
            this.level = level;
        }

        Nd deepCopy() {
            Nd copy = new Nd(level);
            for (Object thing : row) {
                copy.row.add(thing instanceof Nd ? ((Nd) thing).deepCopy() : thing);
            }
            return copy;
        }

        void gather(List<Bx> into) {
            for (Object thing : row) {
                if (thing instanceof Nd) {
                    ((Nd) thing).gather(into);
                } else {
                    into.add((Bx) thing);
                }
            }
        }
    }

    private static Bx hull(Object thing) {
        if (thing instanceof Bx) {
            return (Bx) thing;
        }
        return hullOfAll(((Nd) thing).row);
    }

    private static Bx hullOfAll(List<Object> things) {
        Bx all = null;
        for (Object thing : things) {
            all = all == null ? hull(thing) : all.with(hull(thing));
        }
        return all;
    }

    private static int boxesIn(Object thing) {
        if (thing instanceof Bx) {
            return 1;
        }
        List<Bx> all = new ArrayList<>();
        ((Nd) thing).gather(all);
        return all.size();
    }

    /** What a change records: all but the text and the courts of the latest time. */
    private static final class State {
        Nd root = new Nd(0);
        int courts, splits, orphans;

        State copy() {
            State state = new State();
            state.root = root.deepCopy();
            state.courts = courts;
            state.splits = splits;
            state.orphans = orphans;
            return state;
        }

        List<Nd> level(int level) {
            List<Nd> found = new ArrayList<>();
            collect(root, level, found);
            return found;
        }

        private void collect(Nd node, int level, List<Nd> found) {
            if (node.level == level) {
                found.add(node);
            } else if (node.level > level) {
                for (Object below : node.row) {
                    collect((Nd) below, level, found);
                }
            }
        }

        TreeMap<Integer, Bx> boxes() {
            List<Bx> all = new ArrayList<>();
            root.gather(all);
            TreeMap<Integer, Bx> map = new TreeMap<>();
            for (Bx b : all) {
                map.put(b.number, b);
            }
            return map;
        }

        Nd above(Nd node) {
            for (Nd other : level(node.level + 1)) {
                if (other.row.contains(node)) {
                    return other;
                }
            }
            return null;
        }

        int overlaps(int level) {
            List<Nd> nodes = level(level);
            int sum = 0;
            for (int i = 0; i < nodes.size(); i++) {
                for (int j = 0; j < i; j++) {
                    sum += hull(nodes.get(i)).shared(hull(nodes.get(j)));
                }
            }
            return sum;
        }

        Nd choose(Bx b, int level) {
            Nd node = root;
            while (node.level > level) {
                List<Nd> below = new ArrayList<>();
                for (Object thing : node.row) {
                    below.add((Nd) thing);
                }
                below.sort(Comparator.<Nd>comparingInt(n -> hull(n).with(b).area() - hull(n).area())
                        .thenComparingInt(n -> hull(n).area()));
                node = below.get(0);
            }
            return node;
        }

        void come(Object thing, int level, Set<Integer> courted, List<int[]> log) {
            Nd node = choose(hull(thing), level);
            node.row.add(thing);
            lookAt(node, courted, log);
        }

        private void lookAt(Nd node, Set<Integer> courted, List<int[]> log) {
            if (node.row.size() < 5) {
                return;
            }
            if (node != root && courted.add(node.level)) {
                hold(node, courted, log);
            } else {
                split(node, courted, log);
            }
        }

        private void hold(Nd node, Set<Integer> courted, List<int[]> log) {
            Bx all = hull(node);
            List<Object> far = new ArrayList<>(node.row);
            // Ascending, the earlier one ahead: the last two are the farthest ones, later ones preferred.
            far.sort(Comparator.comparingDouble(thing -> hull(thing).middleSquare(all)));
            Object nearer = far.get(3);
            Object farther = far.get(4);
            courts++;
            log.add(new int[] {node.level, boxesIn(nearer) + boxesIn(farther)});
            node.row.remove(nearer);
            node.row.remove(farther);
            come(nearer, node.level, courted, log);
            come(farther, node.level, courted, log);
        }

        private void split(Nd node, Set<Integer> courted, List<int[]> log) {
            List<List<Object>> ways = new ArrayList<>();
            int[] cuts = {2, 3, 2, 3};
            for (int way = 0; way < 4; way++) {
                boolean byX = way < 2;
                List<Object> order = new ArrayList<>(node.row);
                order.sort(Comparator.<Object>comparingInt(t -> byX ? hull(t).lx : hull(t).ly)
                        .thenComparingInt(t -> byX ? hull(t).hx : hull(t).hy));
                ways.add(order);
            }
            int best = -1;
            long bestValue = Long.MAX_VALUE;
            for (int way = 0; way < 4; way++) {
                Bx first = hullOfAll(ways.get(way).subList(0, cuts[way]));
                Bx second = hullOfAll(ways.get(way).subList(cuts[way], 5));
                long value = first.shared(second) * 1000000L + first.area() + second.area();
                if (value < bestValue) {
                    best = way;
                    bestValue = value;
                }
            }
            splits++;
            List<Object> order = ways.get(best);
            Nd twin = new Nd(node.level);
            twin.row.addAll(order.subList(cuts[best], 5));
            node.row.clear();
            node.row.addAll(order.subList(0, cuts[best]));
            if (node == root) {
                root = new Nd(node.level + 1);
                root.row.add(node);
            }
            Nd above = above(node);
            above.row.add(above.row.indexOf(node) + 1, twin);
            lookAt(above, courted, log);
        }

        void put(Bx b, List<int[]> log) {
            log.clear();
            come(b, 0, new HashSet<>(), log);
        }

        void take(int number, List<int[]> log) {
            log.clear();
            Nd node = null;
            for (Nd leaf : level(0)) {
                if (leaf.row.removeIf(thing -> ((Bx) thing).number == number)) {
                    node = leaf;
                }
            }
            List<Object> left = new ArrayList<>();
            List<Integer> levels = new ArrayList<>();
            while (node != root) {
                Nd above = above(node);
                if (node.row.size() < 2) {
                    above.row.remove(node);
                    left.addAll(0, node.row);
                    if (!node.row.isEmpty()) {
                        levels.add(0, node.level);
                    }
                }
                node = above;
            }
            orphans += left.size();
            for (int i = 0; i < left.size(); i++) {
                come(left.get(i), levels.get(i), new HashSet<>(), log);
            }
            while (root.level > 0 && root.row.size() == 1) {
                root = (Nd) root.row.get(0);
            }
        }
    }

    private static final class Model {
        State now = new State();
        final List<State> history = new ArrayList<>();
        final List<int[]> log = new ArrayList<>();
        String text = "";

        private void record() {
            history.add(now.copy());
            if (history.size() == 5) {
                history.remove(0);
            }
        }

        private static boolean in(int v, int low, int high) {
            return low <= v && v <= high;
        }

        private static boolean frame(int lx, int ly, int hx, int hy) {
            return in(lx, 0, 99) && in(ly, 0, 99) && in(hx, lx, 99) && in(hy, ly, 99);
        }

        int put(int b, int lx, int ly, int hx, int hy) {
            if (!in(b, 0, 30) || !frame(lx, ly, hx, hy)) {
                return BoxCourt.INVALID_ARGUMENT;
            }
            if (now.boxes().containsKey(b)) {
                return BoxCourt.NOT_POSSIBLE;
            }
            record();
            now.put(new Bx(b, lx, ly, hx, hy), log);
            return now.root.level + 1;
        }

        int take(int b) {
            if (!in(b, 0, 30)) {
                return BoxCourt.INVALID_ARGUMENT;
            }
            if (!now.boxes().containsKey(b)) {
                return BoxCourt.NOT_POSSIBLE;
            }
            record();
            now.take(b, log);
            return now.root.level + 1;
        }

        int boxOf(int b, int what) {
            if (!in(b, 0, 30) || !in(what, 0, 5)) {
                return BoxCourt.INVALID_ARGUMENT;
            }
            Bx box = now.boxes().get(b);
            if (box == null) {
                return BoxCourt.NOT_FOUND;
            }
            List<Nd> leaves = now.level(0);
            for (int i = 0; i < leaves.size(); i++) {
                int at = leaves.get(i).row.indexOf(box);
                if (at >= 0 && what >= 4) {
                    return what == 4 ? i : at;
                }
            }
            return box.side(what);
        }

        int nodeOf(int level, int place, int what) {
            if (level < 0 || place < 0 || !in(what, 0, 5)) {
                return BoxCourt.INVALID_ARGUMENT;
            }
            List<Nd> nodes = now.level(level);
            if (place >= nodes.size()) {
                return BoxCourt.NOT_FOUND;
            }
            Nd node = nodes.get(place);
            if (what == 4) {
                return node.row.size();
            }
            if (what == 5 && level == 0) {
                int set = 0;
                for (Object thing : node.row) {
                    set += 1 << ((Bx) thing).number;
                }
                return set;
            }
            if (what == 5) {
                return now.level(level - 1).indexOf(node.row.get(0));
            }
            return node.row.isEmpty() ? BoxCourt.NOT_FOUND : hull(node).side(what);
        }

        int overlaps(int level) {
            if (level < 0) {
                return BoxCourt.INVALID_ARGUMENT;
            }
            return level > now.root.level ? BoxCourt.NOT_FOUND : now.overlaps(level);
        }

        int overlap(int one, int other) {
            if (!in(one, 0, 30) || !in(other, 0, 30)) {
                return BoxCourt.INVALID_ARGUMENT;
            }
            Bx a = now.boxes().get(one);
            Bx b = now.boxes().get(other);
            return a == null || b == null ? BoxCourt.NOT_FOUND : a.shared(b);
        }

        int court(int index, int what) {
            if (index < 0 || !in(what, 0, 1)) {
                return BoxCourt.INVALID_ARGUMENT;
            }
            return index >= log.size() ? BoxCourt.NOT_FOUND : log.get(index)[what];
        }

        private List<Nd> nodes() {
            List<Nd> all = new ArrayList<>();
            for (int level = 0; level <= now.root.level; level++) {
                all.addAll(now.level(level));
            }
            return all;
        }

        int window(int lx, int ly, int hx, int hy, int what) {
            if (!frame(lx, ly, hx, hy) || !in(what, 0, 1)) {
                return BoxCourt.INVALID_ARGUMENT;
            }
            Bx window = new Bx(-1, lx, ly, hx, hy);
            int answer = 0;
            if (what == 0) {
                for (Bx b : now.boxes().values()) {
                    answer += b.meets(window) ? 1 << b.number : 0;
                }
                return answer;
            }
            for (Nd node : nodes()) {
                answer += !node.row.isEmpty() && hull(node).meets(window) ? 1 : 0;
            }
            return answer;
        }

        int nearest(int x, int y, int index, int what) {
            if (!in(x, 0, 99) || !in(y, 0, 99) || index < 0 || !in(what, 0, 2)) {
                return BoxCourt.INVALID_ARGUMENT;
            }
            List<Bx> order = new ArrayList<>(now.boxes().values());
            order.sort(Comparator.comparingInt(b -> b.square(x, y)));
            if (index >= order.size()) {
                return BoxCourt.NOT_FOUND;
            }
            Bx box = order.get(index);
            if (what == 0) {
                return box.number;
            }
            if (what == 1) {
                return box.square(x, y);
            }
            int looked = 0;
            for (Nd node : nodes()) {
                looked += hull(node).square(x, y) <= box.square(x, y) ? 1 : 0;
            }
            return looked;
        }

        int would(int lx, int ly, int hx, int hy, int what) {
            if (!frame(lx, ly, hx, hy) || !in(what, 0, 4)) {
                return BoxCourt.INVALID_ARGUMENT;
            }
            if (now.boxes().size() == 31) {
                return BoxCourt.NOT_POSSIBLE;
            }
            Bx box = new Bx(99, lx, ly, hx, hy);
            Nd leaf = now.choose(box, 0);
            State then = now.copy();
            List<int[]> courts = new ArrayList<>();
            then.put(box, courts);
            return new int[] {now.level(0).indexOf(leaf), leaf.row.size() == 4 ? 1 : 0, courts.size(),
                then.root.level + 1, then.overlaps(0)}[what];
        }

        int wouldTake(int b, int what) {
            if (!in(b, 0, 30) || !in(what, 0, 3)) {
                return BoxCourt.INVALID_ARGUMENT;
            }
            if (!now.boxes().containsKey(b)) {
                return BoxCourt.NOT_FOUND;
            }
            State then = now.copy();
            List<int[]> courts = new ArrayList<>();
            then.take(b, courts);
            return new int[] {then.orphans - now.orphans, courts.size(), then.root.level + 1, then.overlaps(0)}[what];
        }

        int count(int what) {
            if (!in(what, 0, 10)) {
                return BoxCourt.INVALID_ARGUMENT;
            }
            int area = 0;
            for (Nd leaf : now.level(0)) {
                area += leaf.row.isEmpty() ? 0 : hull(leaf).area();
            }
            return new int[] {now.boxes().size(), now.root.level + 1, nodes().size(), now.level(0).size(), log.size(),
                now.courts, now.splits, now.orphans, history.size(), text.length(), area}[what];
        }

        int undo() {
            if (history.isEmpty()) {
                return BoxCourt.NOT_POSSIBLE;
            }
            now = history.remove(history.size() - 1);
            return history.size();
        }

        int type(int character) {
            if (!in(character, 32, 126)) {
                return BoxCourt.INVALID_ARGUMENT;
            }
            if (text.length() == 60) {
                return BoxCourt.LIMIT_REACHED;
            }
            text += (char) character;
            return text.length();
        }

        int clearText() {
            int length = text.length();
            text = "";
            return length;
        }

        private static final String N = "([0-9]{1,2})";
        private static final Pattern ORDER = Pattern.compile(
                "\\+" + N + "," + N + "," + N + "," + N + "," + N + ";|-" + N + ";");

        /** Position, reason and cause (-1: none), or null; the orders that hold go into the list. */
        private int[] fault(List<int[]> orders) {
            Set<Integer> there = new HashSet<>(now.boxes().keySet());
            int at = 0;
            while (at < text.length()) {
                String rest = text.substring(at);
                Matcher m = ORDER.matcher(rest);
                if (!m.lookingAt()) {
                    int k = rest.length();
                    while (!canBegin(rest.substring(0, k))) {
                        k--;
                    }
                    return new int[] {at, 1, k};
                }
                boolean plus = rest.charAt(0) == '+';
                int[] order = new int[plus ? 5 : 1];
                for (int i = 0; i < order.length; i++) {
                    order[i] = Integer.parseInt(m.group(plus ? i + 1 : 6));
                }
                if (order[0] > 30) {
                    return new int[] {at, 2, 0};
                }
                for (int i = 1; plus && i <= 2; i++) {
                    if (order[i] > order[i + 2]) {
                        return new int[] {at, 2, i};
                    }
                }
                if (plus ? !there.add(order[0]) : !there.remove(order[0])) {
                    return new int[] {at, 3, -1};
                }
                orders.add(order);
                at += m.end();
            }
            return null;
        }

        private static boolean canBegin(String part) {
            Matcher m = ORDER.matcher(part);
            return part.isEmpty() || m.matches() || m.hitEnd();
        }

        int fault(int what) {
            if (!in(what, 0, 2)) {
                return BoxCourt.INVALID_ARGUMENT;
            }
            int[] fault = fault(new ArrayList<>());
            return fault == null || fault[what] == -1 ? BoxCourt.NOT_FOUND : fault[what];
        }

        int play() {
            List<int[]> orders = new ArrayList<>();
            if (fault(orders) != null) {
                return BoxCourt.NOT_POSSIBLE;
            }
            record();
            for (int[] o : orders) {
                if (o.length == 1) {
                    now.take(o[0], log);
                } else {
                    now.put(new Bx(o[0], o[1], o[2], o[3], o[4]), log);
                }
            }
            return orders.size();
        }
    }

    private static int pick(int bound) {
        seed = seed * 6364136223846793005L + 1442695040888963407L;
        return (int) ((seed >>> 33) % bound);
    }

    private static int pickBox() {
        return pick(40) == 0 ? pick(2) * 32 - 1 : pick(31);
    }

    private static int pickPoint(int run) {
        if (pick(60) == 0) {
            return pick(2) * 101 - 1;
        }
        switch (run % 5) {
            case 0: return pick(100);
            case 1: return pick(5);
            case 2: return pick(10) * 11;
            case 3: return 40 + pick(20);
            default: return pick(3) * 49 + pick(2);
        }
    }

    /** A low and a high one: mostly in order, often near to one another. */
    private static int[] pickSides(int run) {
        int a = pickPoint(run);
        int b = pick(3) == 0 ? pickPoint(run) : pick(2) == 0 ? a : Math.min(99, a + pick(12));
        boolean turn = pick(25) != 0;
        return new int[] {turn ? Math.min(a, b) : a, turn ? Math.max(a, b) : b};
    }

    private static int pickWhat(int last) {
        return pick(30) == 0 ? pick(2) * (last + 2) - 1 : pick(last + 1);
    }

    private static void due(int run, String call, int got, int want) {
        if (got != want) {
            wrong++;
            if (wrong <= 20) {
                System.out.println("ModelTest run " + run + ": " + call + " answered " + got + ", due is " + want);
            }
        }
    }

    private static final int[] seen = new int[8];

    private static void change(int run, BoxCourt x, Model m, int putsOfTen) {
        int kind = pick(run % 3 == 0 ? 120 : 24);
        if (kind == 0) {
            due(run, "undo", x.undo(), m.undo());
        } else if (kind == 1) {
            due(run, "play", x.play(), m.play());
        } else if (kind == 2) {
            due(run, "clearText", x.clearText(), m.clearText());
        } else if (pick(10) < putsOfTen) {
            int b = pickBox();
            for (int i = 0; i < 31 && pick(8) > 0 && m.now.boxes().containsKey(b); i++) {
                b = (b + 1) % 31;
            }
            int[] xs = pickSides(run);
            int[] ys = pickSides(run);
            due(run, "put " + b + " " + xs[0] + " " + ys[0] + " " + xs[1] + " " + ys[1],
                    x.put(b, xs[0], ys[0], xs[1], ys[1]), m.put(b, xs[0], ys[0], xs[1], ys[1]));
        } else {
            int b = pickBox();
            for (int i = 0; i < 31 && pick(8) > 0 && !m.now.boxes().containsKey(b); i++) {
                b = (b + 1) % 31;
            }
            due(run, "take " + b, x.take(b), m.take(b));
        }
        seen[0] = Math.max(seen[0], m.now.root.level + 1);
        for (int[] court : m.log) {
            seen[1 + Math.min(court[0], 3)]++;
        }
        seen[5] = Math.max(seen[5], m.log.size());
        seen[6] = Math.max(seen[6], m.now.orphans);
        seen[7] = Math.max(seen[7], m.now.boxes().size());
    }

    private static void look(int run, BoxCourt x, Model m) {
        int a = pickBox();
        int b = pickBox();
        int[] xs = pickSides(run);
        int[] ys = pickSides(run);
        int n = pick(6) == 0 ? pick(40) - 2 : pick(8);
        switch (pick(11)) {
            case 0: {
                int w = pickWhat(5);
                due(run, "boxOf " + a + " " + w, x.boxOf(a, w), m.boxOf(a, w));
                break;
            }
            case 1: case 2: {
                int w = pickWhat(5);
                int level = pick(20) == 0 ? pick(8) - 2 : pick(3);
                due(run, "nodeOf " + level + " " + n + " " + w, x.nodeOf(level, n, w), m.nodeOf(level, n, w));
                break;
            }
            case 3: {
                int level = pick(6) - 1;
                due(run, "overlaps " + level, x.overlaps(level), m.overlaps(level));
                break;
            }
            case 4: due(run, "overlap " + a + " " + b, x.overlap(a, b), m.overlap(a, b)); break;
            case 5: {
                int i = pick(8) - 1;
                int w = pickWhat(1);
                due(run, "court " + i + " " + w, x.court(i, w), m.court(i, w));
                break;
            }
            case 6: {
                int w = pickWhat(1);
                due(run, "window " + w, x.window(xs[0], ys[0], xs[1], ys[1], w),
                        m.window(xs[0], ys[0], xs[1], ys[1], w));
                break;
            }
            case 7: {
                int w = pickWhat(2);
                due(run, "nearest " + xs[0] + " " + ys[0] + " " + n + " " + w,
                        x.nearest(xs[0], ys[0], n, w), m.nearest(xs[0], ys[0], n, w));
                break;
            }
            case 8: {
                int w = pickWhat(4);
                due(run, "would " + w, x.would(xs[0], ys[0], xs[1], ys[1], w),
                        m.would(xs[0], ys[0], xs[1], ys[1], w));
                break;
            }
            case 9: {
                int w = pickWhat(3);
                due(run, "wouldTake " + a + " " + w, x.wouldTake(a, w), m.wouldTake(a, w));
                break;
            }
            default: {
                int w = pickWhat(10);
                due(run, "count " + w, x.count(w), m.count(w));
            }
        }
    }

    private static String number() {
        int n = pick(8) == 0 ? pick(100) : pick(31);
        return (n < 10 && pick(4) == 0 ? "0" : "") + n;
    }

    /** Types an order, now and then one that is not quite in order, and looks for its fault. */
    private static int write(int run, BoxCourt x, Model m) {
        StringBuilder order = new StringBuilder();
        if (pick(3) > 0) {
            int lx = pick(90);
            int ly = pick(90);
            order.append('+').append(number()).append(',').append(lx).append(',').append(ly).append(',')
                    .append(lx + pick(10) - (pick(12) == 0 ? 5 : 0)).append(',')
                    .append(ly + pick(10) - (pick(12) == 0 ? 5 : 0)).append(';');
        } else {
            order.append('-').append(number()).append(';');
        }
        if (pick(6) == 0) {
            int at = pick(order.length());
            if (pick(2) == 0) {
                order.setCharAt(at, "+-,;0 ~9".charAt(pick(8)));
            } else {
                order.deleteCharAt(at);
            }
        }
        int calls = 0;
        for (int i = 0; i < order.length(); i++) {
            due(run, "type", x.type(order.charAt(i)), m.type(order.charAt(i)));
            calls++;
            if (pick(8) == 0) {
                int w = pickWhat(2);
                due(run, "fault " + w + " of " + m.text, x.fault(w), m.fault(w));
                calls++;
            }
        }
        for (int w = 0; w < 3; w++) {
            due(run, "fault " + w + " of " + m.text, x.fault(w), m.fault(w));
            calls++;
        }
        if (pick(3) == 0) {
            due(run, "play " + m.text, x.play(), m.play());
            calls++;
        }
        if (m.fault(0) >= 0 && pick(2) == 0) {
            due(run, "clearText", x.clearText(), m.clearText());
            calls++;
        }
        return calls;
    }

    /** Fills the tree up to so many boxes and empties it again, so that the root comes and goes often. */
    private static int swing(int boxes, int most, int putsOfTen) {
        return boxes >= most ? 0 : boxes <= Math.min(3, most - 3) ? 10 : putsOfTen >= 5 ? 10 : 0;
    }

    /** Everything there is to see of the tree. */
    private static int lookAtAll(int run, BoxCourt x, Model m) {
        int calls = 0;
        for (int what = 0; what <= 10; what++, calls++) {
            due(run, "count " + what, x.count(what), m.count(what));
        }
        for (int b = 0; b < 31; b++, calls += 2) {
            due(run, "boxOf " + b + " 4", x.boxOf(b, 4), m.boxOf(b, 4));
            due(run, "boxOf " + b + " 5", x.boxOf(b, 5), m.boxOf(b, 5));
        }
        for (int level = 1; level < 4; level++) {
            for (int place = 0; place < 3; place++, calls += 2) {
                due(run, "nodeOf " + level + " " + place + " 4", x.nodeOf(level, place, 4), m.nodeOf(level, place, 4));
                due(run, "nodeOf " + level + " " + place + " 5", x.nodeOf(level, place, 5), m.nodeOf(level, place, 5));
            }
        }
        return calls;
    }

    public static void main(String[] args) {
        for (int run = 0; run < RUNS; run++) {
            seed = run * 7919L + 13;
            for (int warm = 0; warm < 4; warm++) {
                pick(2);
            }
            BoxCourt x = new BoxCourt();
            Model m = new Model();
            int putsOfTen = 10;
            for (int calls = 0; calls < CALLS - 100; ) {
                if (pick(20) == 0) {
                    putsOfTen = run % 3 == 0 ? 5 + pick(6) : 1 + pick(9);
                }
                if (run % 7 == 3) {
                    putsOfTen = swing(m.now.boxes().size(), 5 + run % 4 * 8, putsOfTen);
                }
                change(run, x, m, putsOfTen);
                calls++;
                for (int i = pick(run % 7 == 3 ? 2 : 4); i > 0; i--) {
                    look(run, x, m);
                    calls++;
                }
                if (pick(30) == 0) {
                    calls += write(run, x, m);
                }
            }
            lookAtAll(run, x, m);
        }
        if (seen[0] < 4 || seen[1] == 0 || seen[2] == 0 || seen[3] == 0 || seen[7] < 31) {
            wrong++;
            System.out.println("ModelTest: the runs reach too little");
        }
        if (args.length > 0) {
            System.out.println(java.util.Arrays.toString(seen));
        }
        System.out.println(wrong == 0 ? "ModelTest: all answers are as due" : "ModelTest: " + wrong + " not as due");
        if (wrong != 0) {
            System.exit(1);
        }
    }
}
