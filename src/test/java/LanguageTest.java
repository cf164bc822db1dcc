import java.io.IOException;
import java.lang.reflect.Field;
import java.lang.reflect.Method;
import java.lang.reflect.Modifier;
import java.nio.file.Files;
import java.nio.file.Path;
import java.util.HashMap;
import java.util.Map;
import java.util.Set;
import java.util.TreeSet;
import java.util.regex.Matcher;
import java.util.regex.Pattern;

/** The public face of the document, and the rules of LANGUAGE.md that can be looked at from outside. */
public final class LanguageTest {
    private static final Due due = new Due("LanguageTest");
    private static final Path SOURCE = Path.of("src/main/java/OverByTheHand.java");
    /** Each call with how many ints it takes. */
    private static final String FACE = "feed1 river0 yard2 person2 grudge2 quarrel3 cold1 put2 out0 load1 slips1 lasts0 cross1 "
        + "chains0 longest1 makeUp0 worth2 change0 flood0 overs0 owes2 owed1 strike0 wet2 row1 judge0 seeds2 image0 restore0 "
        + "count1";
    private static final String[] RULED_OUT = {"throw", "throws", "try", "catch", "finally", "synchronized", "assert", "import",
        "package", "Object", "hashCode", "toString", "random", "Math\\.\\w+Exact", "->", "::", "protected", "volatile",
        "transient", "native", "@\\w+", "\\w+\\[\\]\\[\\]\\[\\]", "var", "equals"};

    public static void main(String[] args) throws IOException {
        face();
        members();
        String code = code();
        for (String word : RULED_OUT) {
            String whole = Character.isLetter(word.charAt(0)) ? "\\b" + word + "\\b" : word;
            due.is("how often the source has " + word, times(whole, code), 0);
        }
        due.is("signs beyond 127", (int) code.chars().filter(c -> c > 127).count(), 0);
        library(code);
        Map<String, String> bodies = bodies(code);
        lengths(bodies);
        objects(bodies);
        depth(bodies);
        due.end();
    }

    private static void face() {
        Class<?> c = OverByTheHand.class;
        due.is("whether it is public and final", c.getModifiers(), Modifier.PUBLIC | Modifier.FINAL);
        due.is("constructors", c.getDeclaredConstructors().length, 1);
        due.is("public constructors without parameters", c.getConstructors()[0].getParameterCount(), 0);
        Set<String> want = new TreeSet<>(Set.of(FACE.split(" ")));
        Set<String> have = new TreeSet<>();
        for (Method method : c.getDeclaredMethods()) {
            if (!Modifier.isPrivate(method.getModifiers())) {
                have.add(method.getName() + method.getParameterCount());
                due.same("what " + method.getName() + " answers", method.getReturnType().getName(), "int");
                due.is("whether " + method.getName() + " is only public", method.getModifiers(), Modifier.PUBLIC);
                for (Class<?> parameter : method.getParameterTypes()) {
                    due.same("what " + method.getName() + " takes", parameter.getName(), "int");
                }
            }
        }
        due.same("the face", have.toString(), want.toString());
    }

    private static void members() {
        Set<String> faceNames = new TreeSet<>(Set.of(FACE.replaceAll("[0-9]", "").split(" ")));
        Class<?>[] inside = OverByTheHand.class.getDeclaredClasses();
        due.is("whether the classes are some twelve at most", inside.length < 12 ? 1 : 0, 1);
        fieldsOf(OverByTheHand.class);
        for (Class<?> c : inside) {
            due.is("whether " + c.getName() + " is static", Modifier.isStatic(c.getModifiers()) ? 1 : 0, 1);
            due.is("whether " + c.getName() + " is hidden", c.getModifiers() & (Modifier.PUBLIC | Modifier.PROTECTED), 0);
            fieldsOf(c);
            for (Method method : c.getDeclaredMethods()) {
                due.is("whether " + method + " bears a name of the face", faceNames.contains(method.getName()) ? 1 : 0, 0);
                due.is("whether " + method + " takes seven at most", method.getParameterCount() <= 7 ? 1 : 0, 1);
            }
        }
    }

    private static void fieldsOf(Class<?> c) {
        int own = 0;
        for (Field field : c.getDeclaredFields()) {
            int is = field.getModifiers();
            due.is("whether " + field + " is private", Modifier.isPrivate(is) ? 1 : 0, 1);
            due.is("whether " + field + " is final if static", !Modifier.isStatic(is) || Modifier.isFinal(is) ? 1 : 0, 1);
            own += Modifier.isStatic(is) ? 0 : 1;
        }
        due.is("whether " + c.getName() + " has twenty fields at most", own <= 20 ? 1 : 0, 1);
    }

    /** The source without its comments. */
    private static String code() throws IOException {
        String text = Files.readString(SOURCE);
        return text.replaceAll("(?s)/\\*.*?\\*/", "").replaceAll("//[^\n]*", "");
    }

    private static int times(String pattern, String code) {
        Matcher m = Pattern.compile(pattern).matcher(code);
        int n = 0;
        while (m.find()) {
            n++;
        }
        return n;
    }

    /** Rule 4: "The library: only what stands here." */
    private static void library(String code) {
        Set<String> allowed = Set.of("Math.max", "Math.min", "Integer.bitCount", "Integer.MAX_VALUE", "System.arraycopy");
        Matcher m = Pattern.compile("\\b[A-Z][a-z]\\w*\\.\\w+").matcher(code);
        while (m.find()) {
            due.is("whether the library has " + m.group(), allowed.contains(m.group()) ? 1 : 0, 1);
        }
    }

    /**
     * Each method with its lines; those of one name are put together. They are known by where they stand: a head line
     * that ends with "{", and the "}" as far from the left.
     */
    private static Map<String, String> bodies(String code) {
        Map<String, String> bodies = new HashMap<>();
        Pattern head = Pattern.compile("( +)(?:private|public) (?:[\\w\\[\\]]+ )*(\\w+)\\(.*\\) \\{");
        String[] lines = code.split("\n");
        for (int i = 0; i < lines.length; i++) {
            Matcher m = head.matcher(lines[i]);
            if (m.matches()) {
                StringBuilder body = new StringBuilder();
                for (int j = i + 1; j < lines.length && !lines[j].equals(m.group(1) + "}"); j++) {
                    body.append(lines[j]).append('\n');
                }
                bodies.merge(m.group(2), body.toString(), String::concat);
            }
        }
        return bodies;
    }

    /** Rule 11: "Methods stay short (some sixty lines)". */
    private static void lengths(Map<String, String> bodies) {
        due.is("whether the methods were found", bodies.size() > 60 ? 1 : 0, 1);
        for (String name : bodies.keySet()) {
            due.is("whether it has sixty lines at most: " + name, times("\n", bodies.get(name)) < 60 ? 1 : 0, 1);
        }
    }

    /** All calls of a run live in one room: only a constructor makes objects, and rows are used again. */
    private static void objects(Map<String, String> bodies) {
        for (String name : bodies.keySet()) {
            int made = Character.isUpperCase(name.charAt(0)) ? 0 : times("\\bnew\\b|\\.clone\\(|\\.copyOf", bodies.get(name));
            due.is("what is made in " + name, made, 0);
        }
    }

    /** Rule 11: "calls that are no recursion go at most eight deep", those of the library, too. */
    private static void depth(Map<String, String> bodies) {
        for (String call : FACE.replaceAll("[0-9]", "").split(" ")) {
            int deep = depthOf(call, bodies, 0);
            due.is("whether " + call + " goes eight deep at most", deep >= 1 && deep <= 8 ? 1 : 0, 1);
        }
    }

    private static int depthOf(String name, Map<String, String> bodies, int above) {
        String body = bodies.get(name);
        int deepest = 1;
        Matcher m = Pattern.compile("(\\w+)\\(").matcher(body == null ? "" : body);
        while (m.find() && above < 20) {
            boolean isCall = !Set.of("if", "for", "while", "switch", name).contains(m.group(1));
            deepest = Math.max(deepest, isCall ? 1 + depthOf(m.group(1), bodies, above + 1) : 1);
        }
        return deepest;
    }
}
