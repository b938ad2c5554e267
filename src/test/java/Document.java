import java.io.IOException;
import java.io.UncheckedIOException;
import java.nio.file.Files;
import java.nio.file.Path;
import java.util.ArrayList;
import java.util.List;

/** ../shared/DOC.md by its promises and their clauses, and which of these the tests have named. */
final class Document {
    private static final int PROMISES = 23;

    private final Check c;
    /** 0 is what stands ahead of the promises: the WIRE's text, the calls of an object, the Terms. */
    private final String[] parts = new String[PROMISES + 1];
    private final List<List<String>> said = new ArrayList<>();

    Document(Check c) {
        this.c = c;
        String text = plain(read(Path.of("../shared/DOC.md")));
        parts[0] = between(text, "======== 1 ", "## The public face").replaceAll("(?<=\\(OLD\\)\\.).*?(?=An object)", " ")
            + between(text, "## Terms", "Ahead of the calls").replaceAll("======== [0-9]|text(?= THINGS| SOONEST| LASTS)", " ");
        for (int i = 1; i <= PROMISES; i++) {
            String whole = between(text, "## Promise " + i + ": ", i < PROMISES ? "## Promise " : "## Not promised");
            // Behind the head and the call, as in "letters int letters(long w): Letters come ..".
            parts[i] = whole.substring(whole.indexOf("): ") + 3);
        }
        for (int i = 0; i <= PROMISES; i++) {
            said.add(new ArrayList<>());
        }
    }

    /** The checks behind it are of these words: a test of words that do not stand there is itself at fault. */
    void says(int promise, String words) {
        c.of("");
        c.holds("promise " + promise + " says: " + words, parts[promise].contains(plain(words)));
        said.get(promise).add(plain(words));
        c.of(words);
    }

    /** Each clause that tells what the class does is to have a test. */
    void isSaidWhole() {
        c.of("");
        for (int i = 0; i <= PROMISES; i++) {
            for (String clause : parts[i].split("(?<=[.;])\\s+")) {
                String bare = clause.strip().replaceAll("[.;]$", "");
                boolean is = bare.isEmpty();
                for (String words : said.get(i)) {
                    is |= words.contains(bare) || clause.contains(words);
                }
                c.holds("a test of promise " + i + ": " + clause, is);
            }
        }
    }

    private static String between(String text, String head, String tail) {
        int from = text.indexOf(head) + head.length();
        return text.substring(from, text.indexOf(tail, from));
    }

    private static String plain(String some) {
        return some.replace('"', '\'').replace("`", "").replaceAll("\\s+", " ");
    }

    private static String read(Path path) {
        try {
            return Files.readString(path);
        } catch (IOException e) {
            throw new UncheckedIOException(e);
        }
    }
}
