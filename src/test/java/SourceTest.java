import java.io.IOException;
import java.nio.file.Files;
import java.nio.file.Path;
import java.util.Map;
import java.util.Set;
import java.util.TreeMap;
import java.util.TreeSet;
import java.util.regex.Matcher;
import java.util.regex.Pattern;

/** What of ../shared/LANGUAGE.md can be seen in the text alone: rules 6, 10 and 11. */
final class SourceTest {
    private static final Path SOURCE = Path.of("src/main/java/TwoOnACable.java");
    private static final Pattern HEAD = Pattern.compile(
        "( {4}| {8})(?:(?:public|private|static|final) )*(?:int|long|boolean|void|char|Thing) (\\w+)\\(.*\\) \\{");
    private static final Pattern CALL = Pattern.compile("(?<!new )\\b(\\w+)\\(");
    private static final int DEEPEST = 8, LONGEST_METHOD = 60;
    private static final Check C = new Check();

    public static void main(String[] args) throws IOException {
        String text = Files.readString(SOURCE).replaceAll("(?s)/\\*.*?\\*/", "").replaceAll("//.*", "");
        Map<String, Set<String>> calls = methods(text.split("\n"));
        C.holds("the face's methods are found", calls.keySet().containsAll(Set.of("letters", "wire", "digest")));
        for (String name : calls.keySet()) {
            int deep = depth(name, calls, 0);
            C.holds(name + " calls at most eight deep, not " + deep, deep <= DEEPEST);
        }
        for (String word : new String[] {"catch", "finally", "synchronized", "assert", "import", "package", "->", "::"}) {
            C.holds("no " + word, !text.contains(word));
        }
        C.end("SourceTest");
    }

    /** By name, and methods of one name taken together: so chains are rather told too long than too short. */
    private static Map<String, Set<String>> methods(String[] lines) {
        Map<String, Set<String>> calls = new TreeMap<>();
        for (int i = 0; i < lines.length; i++) {
            Matcher head = HEAD.matcher(lines[i]);
            if (!head.matches()) {
                continue;
            }
            Set<String> called = calls.computeIfAbsent(head.group(2), name -> new TreeSet<>());
            int end = i + 1;
            for (; !lines[end].equals(head.group(1) + "}"); end++) {
                Matcher call = CALL.matcher(lines[end]);
                while (call.find()) {
                    called.add(call.group(1));
                }
            }
            C.holds(head.group(2) + " is short", end - i < LONGEST_METHOD);
        }
        return calls;
    }

    private static int depth(String name, Map<String, Set<String>> calls, int above) {
        int deepest = 0;
        // A chain that is too long already need not be gone to its end: it may be a ring.
        for (String called : above > DEEPEST ? Set.<String>of() : calls.get(name)) {
            if (calls.containsKey(called)) {
                deepest = Math.max(deepest, depth(called, calls, above + 1));
            }
        }
        return 1 + deepest;
    }
}
