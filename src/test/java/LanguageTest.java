import java.lang.reflect.Constructor;
import java.lang.reflect.Field;
import java.lang.reflect.Member;
import java.lang.reflect.Method;
import java.lang.reflect.Modifier;
import java.nio.charset.StandardCharsets;
import java.nio.file.Files;
import java.nio.file.Path;
import java.util.ArrayList;
import java.util.Arrays;
import java.util.HashSet;
import java.util.List;
import java.util.Set;
import java.util.regex.Matcher;
import java.util.regex.Pattern;

/** Looks at the face and, roughly, at the rules of ../shared/LANGUAGE.md that a text can show; run at the project's root. */
public final class LanguageTest {
    private static final String[] FACE = {
        "put(int,int,int,int,int)", "take(int)", "boxOf(int,int)", "nodeOf(int,int,int)", "overlaps(int)",
        "overlap(int,int)", "court(int,int)", "window(int,int,int,int,int)", "nearest(int,int,int,int)",
        "would(int,int,int,int,int)", "wouldTake(int,int)", "count(int)", "undo()", "type(int)", "clearText()",
        "fault(int)", "play()"};
    private static final String[] CONSTANTS = {"INVALID_ARGUMENT", "NOT_POSSIBLE", "LIMIT_REACHED", "NOT_FOUND"};
    private static final String[] FORBIDDEN = {"\\bthrow\\b", "\\bthrows\\b", "\\btry\\b", "\\bcatch\\b", "\\bfinally\\b",
        "\\bsynchronized\\b", "\\bassert\\b", "->", "::", "\\bpackage\\b", "\\bMath\\.\\w+Exact\\b", "\\bSystem\\.(?!arraycopy\\b)",
        "\\bObject\\b", "\\bequals\\b", "\\bhashCode\\b", "\\btoString\\b", "\\bThread\\b", "\\bstatic\\s*\\{",
        "\\bprotected\\b", "\\bimport (?!java\\.util\\.(Arrays|ArrayList|List|Iterator);)"};

    /** The lines of the document's face as they stand in it, with what the interface says ahead of its calls. */
    private static final String[] ORDER = {
        "public final class BoxCourt {", "public static final int INVALID_ARGUMENT = -1000001;",
        "public static final int NOT_POSSIBLE = -1000002;", "public static final int LIMIT_REACHED = -1000003;",
        "public static final int NOT_FOUND = -1000004;", "public BoxCourt()", "// ---- putting and taking out",
        "public int put(int box, int lowX, int lowY, int highX, int highY)", "public int take(int box)",
        "// ---- what there is", "public int boxOf(int box, int what)", "public int nodeOf(int level, int place, int what)",
        "public int overlaps(int level)", "public int overlap(int one, int other)", "public int court(int index, int what)",
        "// ---- looking", "public int window(int lowX, int lowY, int highX, int highY, int what)",
        "public int nearest(int x, int y, int index, int what)",
        "public int would(int lowX, int lowY, int highX, int highY, int what)", "public int wouldTake(int box, int what)",
        "public int count(int what)", "public int undo()", "// ---- texts", "public int type(int character)",
        "public int clearText()", "public int fault(int what)", "public int play()"};

    private static int wrong = 0;

    private static void fail(String what) {
        wrong++;
        System.out.println("LanguageTest: " + what);
    }

    private static boolean isPrivate(Member member) {
        return Modifier.isPrivate(member.getModifiers());
    }

    private static void lookAtFace() {
        Set<String> face = new HashSet<>(Arrays.asList(FACE));
        Set<String> names = new HashSet<>();
        for (String call : FACE) {
            names.add(call.substring(0, call.indexOf('(')));
        }
        int open = 0;
        for (Method method : BoxCourt.class.getDeclaredMethods()) {
            String call = method.toString().replaceAll(".*BoxCourt\\.", "");
            if (isPrivate(method) || method.isSynthetic()) {
                if (names.contains(method.getName())) {
                    fail("private " + call);
                }
            } else if (!face.contains(call) || method.getReturnType() != int.class
                    || method.getModifiers() != Modifier.PUBLIC) {
                fail("not of the face: " + method);
            } else {
                open++;
            }
        }
        if (open != FACE.length) {
            fail("the face is not whole");
        }
        Set<String> constants = new HashSet<>(Arrays.asList(CONSTANTS));
        for (Field field : BoxCourt.class.getDeclaredFields()) {
            boolean known = constants.remove(field.getName());
            if (known == isPrivate(field)) {
                fail("field " + field);
            }
            if (Modifier.isStatic(field.getModifiers()) && !Modifier.isFinal(field.getModifiers())) {
                fail("static state " + field);
            }
        }
        if (!constants.isEmpty()) {
            fail("missing " + constants);
        }
        Constructor<?>[] made = BoxCourt.class.getDeclaredConstructors();
        if (made.length != 1 || made[0].getParameterCount() != 0 || !Modifier.isPublic(made[0].getModifiers())) {
            fail("constructors");
        }
        if (!Modifier.isFinal(BoxCourt.class.getModifiers())) {
            fail("class is not final");
        }
    }

    private static void lookAtClasses() {
        Class<?>[] inside = BoxCourt.class.getDeclaredClasses();
        if (inside.length > 11) {
            fail("too many classes");
        }
        List<Class<?>> all = new ArrayList<>(Arrays.asList(inside));
        all.add(BoxCourt.class);
        for (Class<?> one : all) {
            int fields = 0;
            for (Field field : one.getDeclaredFields()) {
                fields += Modifier.isStatic(field.getModifiers()) ? 0 : 1;
            }
            if (fields > 20) {
                fail(one + " has too many fields");
            }
            for (Method method : one.getDeclaredMethods()) {
                if (method.getParameterCount() > 7) {
                    fail(method + " has too many parameters");
                }
            }
            if (one != BoxCourt.class && (!Modifier.isStatic(one.getModifiers())
                    || Modifier.isPublic(one.getModifiers()) || one.getDeclaredClasses().length > 0)) {
                fail(one + " is not as a class inside is to be");
            }
        }
    }

    private static void lookAtText() throws java.io.IOException {
        String source = Files.readString(Path.of("src/main/java/BoxCourt.java"), StandardCharsets.ISO_8859_1);
        String code = source.replaceAll("(?s)/\\*.*?\\*/", " ").replaceAll("//[^\\n]*", " ");
        for (String forbidden : FORBIDDEN) {
            Matcher found = Pattern.compile(forbidden).matcher(code);
            if (found.find()) {
                fail("forbidden: " + found.group());
            }
        }
        for (int i = 0; i < source.length(); i++) {
            if (source.charAt(i) > 126) {
                fail("a sign above 126 at " + i);
            }
        }
        lookAtOrder(source);
        lookAtLengths(source);
        lookAtMaking(code);
    }

    private static void lookAtOrder(String source) {
        int at = 0;
        for (String line : ORDER) {
            int next = source.indexOf(line, at);
            if (next < 0) {
                fail("not where the document has it: " + line);
            }
            at = Math.max(at, next);
        }
    }

    /** A method begins at a line that ends with ") {" and is no statement, and ends at the brace below it. */
    private static void lookAtLengths(String source) {
        String[] lines = source.split("\n");
        Pattern head = Pattern.compile("^( {4,8})(?!if|for|while|switch|\\}| )[\\w\\[\\] ]+\\(.*\\) \\{$");
        for (int i = 0; i < lines.length; i++) {
            Matcher m = head.matcher(lines[i]);
            if (m.matches()) {
                int end = i;
                while (end < lines.length && !lines[end].equals(m.group(1) + "}")) {
                    end++;
                }
                if (end - i > 60) {
                    fail("long method: " + lines[i]);
                }
            }
        }
    }

    /** This program makes its rows in constructors alone: no call makes an object or an array. */
    private static void lookAtMaking(String code) {
        Matcher made = Pattern.compile("(?m)^.*\\bnew \\w+.*$").matcher(code);
        while (made.find()) {
            String line = made.group().trim();
            if (!line.startsWith("private final") && !line.matches("\\w+ = new .*")
                    && !line.equals("states[i] = new Tree();")) {
                fail("made by a call: " + line);
            }
        }
    }

    public static void main(String[] args) throws java.io.IOException {
        lookAtFace();
        lookAtClasses();
        lookAtText();
        System.out.println(wrong == 0 ? "LanguageTest: all is as due" : "LanguageTest: " + wrong + " not as due");
        if (wrong != 0) {
            System.exit(1);
        }
    }
}
