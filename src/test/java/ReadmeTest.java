import java.lang.reflect.InvocationTargetException;
import java.lang.reflect.Method;
import java.nio.file.Files;
import java.nio.file.Path;
import java.util.TreeSet;
import java.util.regex.Matcher;
import java.util.regex.Pattern;

/** README.md: its example answers what it says, and its tables name every call and every test. */
public final class ReadmeTest {
    // pool.call(1, 2);   // answer: why    or    // throws Kind: why
    private static final Pattern LINE = Pattern.compile("pool\\.(\\w+)\\(([-0-9, ]*)\\);\\s+// (throws )?([-\\w.]+)(:.*)?");
    private static final Pattern ROW = Pattern.compile("\\| `(\\w+)\\(([\\w, ]*)\\)` \\|.*");
    private static final Pattern TEST_ROW = Pattern.compile("\\| `(\\w+)` \\|.*");

    public static void main(String[] args) throws Exception {
        Check c = new Check();
        String[] lines = Files.readString(Path.of("README.md")).split("\n");
        example(c, lines);
        everyCall(c, lines);
        everyTest(c, lines);
        c.end();
    }

    private static void example(Check c, String[] lines) throws Exception {
        ShadowPool pool = new ShadowPool();
        int asked = 0;
        for (String line : lines) {
            Matcher m = LINE.matcher(line);
            if (m.matches()) {
                String due = (m.group(3) == null ? "" : "throws ") + m.group(4);
                c.dueText("README.md: " + line, answer(pool, m.group(1), m.group(2)), due);
                asked++;
            } else {
                c.due("a call of the example without an answer: " + line, line.startsWith("pool."), false);
            }
        }
        c.due("the example has lines", asked >= 10, true);
    }

    private static String answer(ShadowPool pool, String name, String given) throws Exception {
        String[] texts = given.isBlank() ? new String[0] : given.split(", ");
        Object[] arguments = new Object[texts.length];
        Class<?>[] types = new Class<?>[texts.length];
        for (int i = 0; i < texts.length; i++) {
            arguments[i] = Integer.valueOf(texts[i]);
            types[i] = int.class;
        }
        try {
            return String.valueOf(ShadowPool.class.getMethod(name, types).invoke(pool, arguments));
        } catch (InvocationTargetException e) {
            return "throws " + e.getCause().getClass().getSimpleName();
        }
    }

    private static void everyCall(Check c, String[] lines) {
        TreeSet<String> told = new TreeSet<>();
        for (String line : lines) {
            Matcher m = ROW.matcher(line);
            if (m.matches()) {
                int count = m.group(2).isBlank() ? 0 : m.group(2).split(", ").length;
                told.add(m.group(1) + " of " + count);
            }
        }
        TreeSet<String> face = new TreeSet<>();
        for (Method m : ShadowPool.class.getDeclaredMethods()) {
            if (java.lang.reflect.Modifier.isPublic(m.getModifiers())) {
                face.add(m.getName() + " of " + m.getParameterCount());
            }
        }
        c.dueText("the calls that README.md tells", String.join("\n  ", told), String.join("\n  ", face));
    }

    private static void everyTest(Check c, String[] lines) throws Exception {
        TreeSet<String> told = new TreeSet<>();
        for (String line : lines) {
            Matcher m = TEST_ROW.matcher(line);
            if (m.matches()) {
                told.add(m.group(1));
            }
        }
        TreeSet<String> there = new TreeSet<>();
        for (String name : Path.of("src/test/java").toFile().list()) {
            if (name.endsWith("Test.java")) {
                there.add(name.substring(0, name.length() - ".java".length()));
            }
        }
        c.dueText("the tests that README.md tells", String.join("\n  ", told), String.join("\n  ", there));
    }
}
