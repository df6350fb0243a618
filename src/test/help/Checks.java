import java.io.IOException;
import java.io.UncheckedIOException;
import java.nio.charset.StandardCharsets;
import java.nio.file.Files;
import java.nio.file.Path;
import java.util.HashSet;
import java.util.Set;

/** What the tests of boundary cases share. A test tells the sentence first that its calls look at. */
final class Checks {
    static final int INVALID = -1000001;
    static final int NOT_POSSIBLE = -1000002;
    static final int LIMIT = -1000003;
    static final int NOT_FOUND = -1000004;
    static final int MIN = Integer.MIN_VALUE;
    static final int MAX = Integer.MAX_VALUE;
    static final int BOXES = 31;

    private static final Path DOCUMENT = Path.of("../shared/DOC.md");

    private static final Set<String> found = new HashSet<>();
    private static String document = "";
    private static String sentence = "";
    private static int wrong = 0;

    private Checks() {
    }

    /** The words of ../shared/DOC.md that the calls after this one look at; other words are a fault of the test. */
    static void sentence(String words) {
        sentence = words;
        if (found.add(words) && Files.isReadable(DOCUMENT) && !document().contains(words)) {
            tell("../shared/DOC.md", "other words", "these");
        }
    }

    /** The document in one line, as its lines may be broken anywhere. */
    private static String document() {
        if (document.isEmpty()) {
            try {
                document = Files.readString(DOCUMENT, StandardCharsets.UTF_8).replaceAll("\\s+", " ");
            } catch (IOException e) {
                throw new UncheckedIOException("the tests are run at the project's root, beside ../shared", e);
            }
        }
        return document;
    }

    static void due(String call, int got, int want) {
        if (got != want) {
            tell(call, Integer.toString(got), Integer.toString(want));
        }
    }

    static void due(String call, String got, String want) {
        if (!got.equals(want)) {
            tell(call, got, want);
        }
    }

    private static void tell(String call, String got, String want) {
        wrong++;
        System.out.println("\"" + sentence + "\": " + call + " answered " + got + ", due is " + want);
    }

    static void end(String test) {
        System.out.println(test + (wrong == 0 ? ": all answers are as due" : ": " + wrong + " not as due"));
        if (wrong != 0) {
            System.exit(1);
        }
    }

    /** On a line from left to right: with one height for all of them, areas are widths. */
    static void span(BoxCourt x, int box, int low, int high) {
        x.put(box, low, 0, high, 1);
    }

    /** So many boxes that are alike, from 0 on. */
    static BoxCourt alike(int boxes) {
        BoxCourt x = new BoxCourt();
        for (int box = 0; box < boxes; box++) {
            x.put(box, 7, 7, 7, 7);
        }
        return x;
    }

    /** Leaves 0 4 1 (from 0 to 10) and 2 3 (from 60 to 70), in this order. */
    static BoxCourt twoLeaves() {
        BoxCourt x = new BoxCourt();
        span(x, 0, 0, 0);
        span(x, 1, 10, 10);
        span(x, 2, 60, 60);
        span(x, 3, 70, 70);
        span(x, 4, 5, 5);
        return x;
    }

    /** Rows of five numbers are put, rows of one are taken out. */
    static BoxCourt made(int[][] orders) {
        BoxCourt x = new BoxCourt();
        for (int[] o : orders) {
            int answer = o.length == 1 ? x.take(o[0]) : x.put(o[0], o[1], o[2], o[3], o[4]);
            if (answer < 0) {
                tell("making a tree, box " + o[0], Integer.toString(answer), "levels");
            }
        }
        return x;
    }

    static void write(BoxCourt x, String text) {
        x.clearText();
        for (int i = 0; i < text.length(); i++) {
            x.type(text.charAt(i));
        }
    }

    /** The rows of the tree from its root on, as "[[0 4 1][2 3]]". */
    static String tree(BoxCourt x) {
        StringBuilder rows = new StringBuilder();
        node(x, x.count(1) - 1, 0, rows);
        return rows.toString();
    }

    private static void node(BoxCourt x, int level, int place, StringBuilder rows) {
        rows.append('[');
        if (level <= 0) {
            rows.append(leaf(x, place));
        } else {
            int first = x.nodeOf(level, place, 5);
            for (int i = 0; i < x.nodeOf(level, place, 4); i++) {
                node(x, level - 1, first + i, rows);
            }
        }
        rows.append(']');
    }

    private static String leaf(BoxCourt x, int place) {
        int set = x.nodeOf(0, place, 5);
        String[] row = new String[BOXES];
        for (int box = 0; box < BOXES; box++) {
            int at = (set >> box & 1) == 1 && x.boxOf(box, 4) == place ? x.boxOf(box, 5) : -1;
            if (at >= 0) {
                row[at] = Integer.toString(box);
            }
        }
        StringBuilder boxes = new StringBuilder();
        for (int at = 0; at < row.length && row[at] != null; at++) {
            boxes.append(at == 0 ? "" : " ").append(row[at]);
        }
        return boxes.toString();
    }

    /** low x, low y, high x, high y of a node's box. */
    static String frame(BoxCourt x, int level, int place) {
        return x.nodeOf(level, place, 0) + " " + x.nodeOf(level, place, 1) + " "
                + x.nodeOf(level, place, 2) + " " + x.nodeOf(level, place, 3);
    }

    /** The courts of the latest time as "level:boxes level:boxes". */
    static String courts(BoxCourt x) {
        StringBuilder all = new StringBuilder();
        for (int i = 0; x.court(i, 0) >= 0; i++) {
            all.append(i == 0 ? "" : " ").append(x.court(i, 0)).append(':').append(x.court(i, 1));
        }
        return all.toString();
    }

    static String counts(BoxCourt x) {
        StringBuilder all = new StringBuilder();
        for (int what = 0; what <= 10; what++) {
            all.append(what == 0 ? "" : " ").append(x.count(what));
        }
        return all.toString();
    }

    /** All that there is to see of the present state. */
    static String view(BoxCourt x) {
        StringBuilder all = new StringBuilder(counts(x)).append(" | ").append(tree(x)).append(" | ").append(courts(x));
        for (int box = 0; box < BOXES; box++) {
            if (x.boxOf(box, 0) >= 0) {
                all.append(" | ").append(x.boxOf(box, 0)).append(' ').append(x.boxOf(box, 1)).append(' ')
                        .append(x.boxOf(box, 2)).append(' ').append(x.boxOf(box, 3));
            }
        }
        return all.append(" | ").append(x.fault(0)).append(' ').append(x.fault(1)).append(' ').append(x.fault(2))
                .toString();
    }

    /** All states of the history; none of them is left then. */
    static String past(BoxCourt x) {
        StringBuilder all = new StringBuilder();
        for (int left = x.undo(); left >= 0; left = x.undo()) {
            all.append(left).append(": ").append(counts(x)).append(' ').append(tree(x)).append('\n');
        }
        return all.toString();
    }

    /** The text as far as it can be told by its length and by what it does: x is used up by this. */
    static String effect(BoxCourt x) {
        return x.play() + " " + counts(x) + " " + tree(x);
    }
}
