import java.io.IOException;
import java.lang.reflect.Method;
import java.nio.file.Files;
import java.nio.file.Path;
import java.util.Set;
import java.util.TreeSet;
import java.util.regex.Matcher;
import java.util.regex.Pattern;

/** The calls that README.md tells, in their order, each answer against the one that stands behind it. */
public final class ReadmeTest {
    private static final Due due = new Due("ReadmeTest");
    private static final Path README = Path.of("README.md");
    private static final Pattern MADE = Pattern.compile("OverByTheHand x = new OverByTheHand\\(\\);");
    private static final Pattern CALL = Pattern.compile("x\\.(\\w+)\\((.*)\\); *// (-?\\d+)(:.*)?");
    private static final Pattern TOLD = Pattern.compile("tell\\(x, \"(.*)\"\\); *// (-?\\d+)(:.*)?");

    private static OverByTheHand x = null;
    private static final Set<String> called = new TreeSet<>();
    private static final Set<Integer> answers = new TreeSet<>();
    private static int calls = 0;

    public static void main(String[] args) throws IOException, ReflectiveOperationException {
        for (String line : Files.readAllLines(README)) {
            if (line.startsWith("x.") || line.startsWith("tell(") || line.startsWith("OverByTheHand ")) {
                follow(line);
            }
        }
        for (Method method : OverByTheHand.class.getMethods()) {
            if (method.getDeclaringClass() == OverByTheHand.class) {
                due.is("whether README.md calls " + method.getName(), called.contains(method.getName()) ? 1 : 0, 1);
            }
        }
        for (int refusal : new int[] {-1, -2, -3, -4, -6, 1000000001}) {
            due.is("whether README.md has the refusal " + refusal, answers.contains(refusal) ? 1 : 0, 1);
        }
        // "An object is used for at most 512 calls after it has been made"
        due.is("whether README.md makes 512 calls at most", calls <= 512 ? 1 : 0, 1);
        due.end();
    }

    private static void follow(String line) throws ReflectiveOperationException {
        Matcher told = TOLD.matcher(line);
        Matcher call = CALL.matcher(line);
        if (MADE.matcher(line).matches()) {
            x = new OverByTheHand();
        } else if (told.matches()) {
            calls += told.group(1).length() + 1;
            is(line, Due.tell(x, told.group(1)), told.group(2));
        } else if (call.matches()) {
            calls++;
            called.add(call.group(1));
            is(line, answer(call.group(1), call.group(2)), call.group(3));
        } else {
            due.same("a call of README.md", line, "a call with its answer behind it");
        }
    }

    private static void is(String line, int got, String want) {
        answers.add(got);
        due.is("README.md's " + line, got, Integer.parseInt(want));
    }

    private static int answer(String name, String given) throws ReflectiveOperationException {
        String[] words = given.isEmpty() ? new String[0] : given.split(", ");
        Object[] numbers = new Object[words.length];
        Class<?>[] ints = new Class<?>[words.length];
        for (int i = 0; i < words.length; i++) {
            numbers[i] = number(words[i]);
            ints[i] = int.class;
        }
        return (Integer) OverByTheHand.class.getMethod(name, ints).invoke(x, numbers);
    }

    private static int number(String word) {
        if (word.matches("'.'")) {
            return word.charAt(1);
        }
        return word.startsWith("0b") ? Integer.parseInt(word.substring(2), 2) : Integer.parseInt(word);
    }
}
