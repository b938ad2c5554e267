import java.io.File;
import java.io.IOException;
import java.lang.reflect.Field;
import java.lang.reflect.Method;
import java.lang.reflect.Modifier;
import java.nio.file.Files;
import java.nio.file.Path;
import java.util.regex.Matcher;
import java.util.regex.Pattern;

/** README.md holds: the rows of its example answer what they say, and nothing of the face or the tests is left out. */
final class ReadmeTest {
    private static final Pattern ROW = Pattern.compile("two\\.(\\w+)\\((.*?)\\);\\s*// (-?\\w+)\\b.*");
    private static final int LEAST_ROWS = 20;
    private static final Check C = new Check();

    public static void main(String[] args) throws IOException, ReflectiveOperationException {
        String page = Files.readString(Path.of("README.md"));
        example(page);
        face(page);
        tests(page);
        C.end("ReadmeTest");
    }

    private static void example(String page) throws ReflectiveOperationException {
        TwoOnACable two = new TwoOnACable();
        int rows = 0;
        for (String line : page.split("\n")) {
            if (!line.startsWith("two.")) {
                continue;
            }
            Matcher row = ROW.matcher(line);
            C.holds("a row that can be read: " + line, row.matches());
            C.due(line, called(two, row.group(1), row.group(2)), told(row.group(3)));
            rows++;
        }
        C.holds("rows of the example", rows >= LEAST_ROWS);
    }

    private static long called(TwoOnACable two, String name, String arguments) throws ReflectiveOperationException {
        String[] texts = arguments.isEmpty() ? new String[0] : arguments.split(", ");
        for (Method m : TwoOnACable.class.getMethods()) {
            if (m.getName().equals(name)) {
                Object[] values = new Object[texts.length];
                for (int i = 0; i < texts.length; i++) {
                    values[i] = value(m.getParameterTypes()[i], texts[i]);
                }
                return ((Number) m.invoke(two, values)).longValue();
            }
        }
        throw new NoSuchMethodException(name);
    }

    private static Object value(Class<?> type, String text) {
        if (type == long.class) {
            return Long.decode(text.replaceAll("L$", ""));
        }
        return Integer.decode(text);
    }

    private static long told(String text) throws ReflectiveOperationException {
        return Character.isLetter(text.charAt(0)) ? TwoOnACable.class.getField(text).getInt(null) : Long.parseLong(text);
    }

    private static void face(String page) {
        for (Method m : TwoOnACable.class.getDeclaredMethods()) {
            if (Modifier.isPublic(m.getModifiers())) {
                C.holds("a row for " + m.getName(), page.contains("\n| `" + m.getName() + "("));
            }
        }
        for (Field f : TwoOnACable.class.getFields()) {
            C.holds("what " + f.getName() + " says", page.contains("`" + f.getName() + "`"));
        }
    }

    private static void tests(String page) {
        C.holds("how all tests are run", page.contains("\nbash .ci/run\n"));
        String[] names = new File("src/test/java").list((dir, name) -> name.endsWith("Test.java"));
        C.holds("tests are found", names != null && names.length > 0);
        for (String name : names == null ? new String[0] : names) {
            String test = name.replace(".java", "");
            C.holds("a row for " + test, page.contains("\n| " + test + " |"));
        }
    }
}
