import java.io.IOException;
import java.lang.reflect.Method;
import java.nio.charset.StandardCharsets;
import java.nio.file.Files;
import java.nio.file.Path;
import java.util.regex.Matcher;
import java.util.regex.Pattern;

/** Does the calls of the examples in README.md and looks whether they answer what stands behind them; run at the project's root. */
public final class ReadmeTest {
    private static final Pattern NEW = Pattern.compile("BoxCourt court = new BoxCourt\\(\\);");
    private static final Pattern TYPED = Pattern.compile("for \\(char c : \"(.*)\"\\.toCharArray\\(\\)\\) \\{");
    private static final Pattern CALL = Pattern.compile("court\\.(\\w+)\\(([\\d, ]*)\\); +// (-?\\d+|BoxCourt\\.[A-Z_]+)(:.*)?");
    private static final int EXAMPLES = 2;
    private static final int CALLS = 14;

    private static int wrong = 0;

    private static void due(String what, int got, int want) {
        if (got != want) {
            wrong++;
            System.out.println("ReadmeTest: " + what + " is " + got + ", due is " + want);
        }
    }

    private static int answer(BoxCourt court, String name, String arguments) throws ReflectiveOperationException {
        String[] words = arguments.isEmpty() ? new String[0] : arguments.split(", ");
        Object[] numbers = new Object[words.length];
        Class<?>[] types = new Class<?>[words.length];
        for (int i = 0; i < words.length; i++) {
            numbers[i] = Integer.valueOf(words[i]);
            types[i] = int.class;
        }
        Method method = BoxCourt.class.getMethod(name, types);
        return (Integer) method.invoke(court, numbers);
    }

    private static int told(String word) throws ReflectiveOperationException {
        return word.startsWith("BoxCourt.") ? BoxCourt.class.getField(word.substring(9)).getInt(null)
                : Integer.parseInt(word);
    }

    public static void main(String[] args) throws IOException, ReflectiveOperationException {
        BoxCourt court = null;
        int examples = 0;
        int calls = 0;
        for (String line : Files.readAllLines(Path.of("README.md"), StandardCharsets.UTF_8)) {
            Matcher typed = TYPED.matcher(line);
            Matcher call = CALL.matcher(line);
            if (NEW.matcher(line).matches()) {
                court = new BoxCourt();
                examples++;
            } else if (typed.matches()) {
                for (char c : typed.group(1).toCharArray()) {
                    court.type(c);
                }
            } else if (call.matches()) {
                due(line, answer(court, call.group(1), call.group(2)), told(call.group(3)));
                calls++;
            }
        }
        due("the number of examples", examples, EXAMPLES);
        due("the number of calls with an answer", calls, CALLS);
        System.out.println(wrong == 0 ? "ReadmeTest: all answers are as due" : "ReadmeTest: " + wrong + " not as due");
        if (wrong != 0) {
            System.exit(1);
        }
    }
}
