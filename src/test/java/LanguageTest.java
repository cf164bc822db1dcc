import java.io.IOException;
import java.lang.reflect.Field;
import java.lang.reflect.Method;
import java.lang.reflect.Modifier;
import java.nio.file.Files;
import java.nio.file.Path;
import java.util.Set;
import java.util.TreeSet;
import java.util.regex.Matcher;
import java.util.regex.Pattern;

/** The public face of the document, and the rules of LANGUAGE.md that can be looked at from outside. */
public final class LanguageTest {
    private static final Due due = new Due("LanguageTest");
    private static final Path SOURCE = Path.of("src/main/java/OverByTheHand.java");
    /** Each call with how many ints it takes. */
    private static final String FACE = "feed1 river0 yard2 person2 grudge2 quarrel3 cold1 put2 out0 load1 slips1 lasts0 cross1 "
        + "chains0 longest1 makeUp0 worth2 change0 flood0 overs0 owes2 owed1 strike0 wet2 row1 judge0 seeds2 image0 restore0 "
        + "count1";
    private static final String[] RULED_OUT = {"throw", "throws", "try", "catch", "finally", "synchronized", "assert", "import",
        "package", "Object", "hashCode", "toString", "random", "Math\\.\\w+Exact", "->", "::", "protected", "volatile",
        "transient", "native", "@\\w+", "\\w+\\[\\]\\[\\]\\[\\]", "var", "equals"};

    public static void main(String[] args) throws IOException {
        face();
        members();
        String code = code();
        for (String word : RULED_OUT) {
            String whole = Character.isLetter(word.charAt(0)) ? "\\b" + word + "\\b" : word;
            due.is("how often the source has " + word, times(whole, code), 0);
        }
        due.is("signs beyond 127", (int) code.chars().filter(c -> c > 127).count(), 0);
        lengths(code);
        due.end();
    }

    private static void face() {
        Class<?> c = OverByTheHand.class;
        due.is("whether it is public and final", c.getModifiers(), Modifier.PUBLIC | Modifier.FINAL);
        due.is("constructors", c.getDeclaredConstructors().length, 1);
        due.is("public constructors without parameters", c.getConstructors()[0].getParameterCount(), 0);
        Set<String> want = new TreeSet<>(Set.of(FACE.split(" ")));
        Set<String> have = new TreeSet<>();
        for (Method method : c.getDeclaredMethods()) {
            if (!Modifier.isPrivate(method.getModifiers())) {
                have.add(method.getName() + method.getParameterCount());
                due.same("what " + method.getName() + " answers", method.getReturnType().getName(), "int");
                due.is("whether " + method.getName() + " is only public", method.getModifiers(), Modifier.PUBLIC);
                for (Class<?> parameter : method.getParameterTypes()) {
                    due.same("what " + method.getName() + " takes", parameter.getName(), "int");
                }
            }
        }
        due.same("the face", have.toString(), want.toString());
    }

    private static void members() {
        Set<String> faceNames = new TreeSet<>(Set.of(FACE.replaceAll("[0-9]", "").split(" ")));
        Class<?>[] inside = OverByTheHand.class.getDeclaredClasses();
        due.is("whether the classes are some twelve at most", inside.length < 12 ? 1 : 0, 1);
        fieldsOf(OverByTheHand.class);
        for (Class<?> c : inside) {
            due.is("whether " + c.getName() + " is static", Modifier.isStatic(c.getModifiers()) ? 1 : 0, 1);
            due.is("whether " + c.getName() + " is hidden", c.getModifiers() & (Modifier.PUBLIC | Modifier.PROTECTED), 0);
            fieldsOf(c);
            for (Method method : c.getDeclaredMethods()) {
                due.is("whether " + method + " bears a name of the face", faceNames.contains(method.getName()) ? 1 : 0, 0);
                due.is("whether " + method + " takes seven at most", method.getParameterCount() <= 7 ? 1 : 0, 1);
            }
        }
    }

    private static void fieldsOf(Class<?> c) {
        int own = 0;
        for (Field field : c.getDeclaredFields()) {
            int is = field.getModifiers();
            due.is("whether " + field + " is private", Modifier.isPrivate(is) ? 1 : 0, 1);
            due.is("whether " + field + " is final if static", !Modifier.isStatic(is) || Modifier.isFinal(is) ? 1 : 0, 1);
            own += Modifier.isStatic(is) ? 0 : 1;
        }
        due.is("whether " + c.getName() + " has twenty fields at most", own <= 20 ? 1 : 0, 1);
    }

    /** The source without its comments. */
    private static String code() throws IOException {
        String text = Files.readString(SOURCE);
        return text.replaceAll("(?s)/\\*.*?\\*/", "").replaceAll("//[^\n]*", "");
    }

    private static int times(String pattern, String code) {
        Matcher m = Pattern.compile(pattern).matcher(code);
        int n = 0;
        while (m.find()) {
            n++;
        }
        return n;
    }

    /** Methods are known by where they stand: a head line that ends with "{", and the "}" as far from the left. */
    private static void lengths(String code) {
        String[] lines = code.split("\n");
        for (int i = 0; i < lines.length; i++) {
            if (lines[i].matches(" +(private|public) .*\\) \\{")) {
                String end = lines[i].replaceAll("\\S.*", "") + "}";
                int j = i;
                while (j < lines.length && !lines[j].equals(end)) {
                    j++;
                }
                due.is("whether it has sixty lines at most:" + lines[i], j - i < 60 ? 1 : 0, 1);
            }
        }
    }
}
