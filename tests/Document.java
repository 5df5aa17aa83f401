import java.io.IOException;
import java.io.UncheckedIOException;
import java.nio.file.Files;
import java.nio.file.Path;
import java.util.ArrayList;
import java.util.List;
import java.util.Map;
import java.util.TreeMap;
import java.util.TreeSet;
import java.util.regex.Matcher;
import java.util.regex.Pattern;

/** The sentences of ../shared/DOC.md, and those of them that tests quote. */
final class Document {
    // The tests are run from the project's root, as .ci/run does.
    static final Path FILE = Path.of("../shared/DOC.md");
    /** The number under which "What it is" and "Terms" stand here. */
    static final int TERMS = 0;
    private static final int PROMISES = 63;

    private static final Map<Integer, TreeSet<String>> QUOTES = new TreeMap<>();

    private Document() {
    }

    static String text() {
        try {
            return Files.readString(FILE);
        } catch (IOException e) {
            throw new UncheckedIOException(e);
        }
    }

    /** A test of its own for a sentence that names a boundary case, or for a part of such a sentence. */
    static void edge(int promise, String quote, Kit.Body body) {
        QUOTES.computeIfAbsent(promise, p -> new TreeSet<>()).add(quote);
        Kit.test(promise, '"' + quote + '"', body);
    }

    /** To be called behind all edge tests. */
    static void run() {
        Kit.test(0, "what the edge tests quote stands in the document", () -> {
            for (Map.Entry<Integer, TreeSet<String>> e : QUOTES.entrySet()) {
                List<String> sentences = sentences(e.getKey());
                for (String quote : e.getValue()) {
                    boolean found = sentences.stream().anyMatch(s -> s.contains(quote));
                    Kit.same("promise " + e.getKey() + " says \"" + quote + "\":", found, true);
                }
            }
        });
        Kit.test(0, "each sentence of the document has a test of its own or names no boundary", () -> {
            List<String> without = new ArrayList<>();
            for (int promise = TERMS; promise <= PROMISES; promise++) {
                for (String sentence : sentences(promise)) {
                    if (!isQuoted(promise, sentence) && !PlainSentences.has(promise, sentence)) without.add(promise + " " + sentence);
                }
            }
            Kit.same("sentences without a test:", String.join("\n", without), "");
        });
    }

    private static boolean isQuoted(int promise, String sentence) {
        return QUOTES.getOrDefault(promise, new TreeSet<>()).stream().anyMatch(sentence::contains);
    }

    private static List<String> sentences(int promise) {
        List<String> found = new ArrayList<>();
        if (promise == TERMS) {
            addSentences(found, section("What it is"));
            addSentences(found, section("Terms"));
        } else {
            addSentences(found, section("Promise " + promise + ": [^\\n]*"));
        }
        return found;
    }

    private static String section(String heading) {
        Matcher m = Pattern.compile("(?ms)^## " + heading + "\\n(.*?)(?=^## |\\z)").matcher(text());
        if (!m.find()) throw new AssertionError("no section " + heading);
        return m.group(1);
    }

    private static void addSentences(List<String> found, String section) {
        String[] parts = section.split("```(?:text)?");
        for (int i = 0; i < parts.length; i++) {
            // What stands between two fences is taken line by line.
            for (String block : parts[i].split(i % 2 == 1 ? "\\n" : "\\n\\s*\\n|\\n(?=- )")) {
                String flat = block.strip().replaceAll("\\s+", " ").replaceFirst("^`[^`]*\\)[^`]*`: ", "");
                for (String sentence : flat.split("(?<=\\.) ")) if (!sentence.isEmpty()) found.add(sentence);
            }
        }
    }
}
