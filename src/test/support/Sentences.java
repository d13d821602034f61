import java.io.IOException;
import java.nio.file.Files;
import java.nio.file.Path;
import java.util.LinkedHashMap;
import java.util.Map;
import java.util.function.Predicate;

/**
 * The sentences of ../shared/DOC.md under their headings. Each test names the sentence, or the part of one, that it
 * tests; what no test has named in the end is reported, so that a sentence that is new or changed shows itself.
 */
final class Sentences {
    private static final Map<String, String> UNNAMED = read();

    /** Runs that would go wrong if this sentence were broken. */
    static void test(String heading, String sentence, String... runs) {
        name(heading, sentence);
        if (runs.length == 0) {
            Calls.fail(heading + ", \"" + sentence + "\" has no run");
        }
        for (String run : runs) {
            Calls.run(label(heading, sentence), run);
        }
    }

    /** A sentence that names no boundary: PromiseTests and ModelTests test what it says. */
    static void plain(String heading, String sentence) {
        name(heading, sentence);
    }

    static String label(String heading, String sentence) {
        return heading + ", \"" + sentence + "\"";
    }

    /** Reports what no test has named under the headings that are chosen. */
    static void checkAllNamed(Predicate<String> chosen) {
        int headings = 0;
        for (Map.Entry<String, String> entry : UNNAMED.entrySet()) {
            if (chosen.test(entry.getKey())) {
                headings++;
                String rest = entry.getValue().replaceAll("\\|[\\s.;|]*", "").trim();
                if (!rest.isEmpty()) {
                    Calls.fail(entry.getKey() + ": no test names \"" + rest + "\"");
                }
            }
        }
        if (headings == 0) {
            Calls.fail("no heading was found in the document");
        }
    }

    static String unnamed(String heading) {
        return UNNAMED.getOrDefault(heading, "");
    }

    private static void name(String heading, String sentence) {
        String rest = unnamed(heading);
        int at = rest.indexOf(sentence);
        if (at < 0) {
            Calls.fail(label(heading, sentence) + " does not stand in the document, or is named twice");
            return;
        }
        UNNAMED.put(heading, rest.substring(0, at) + "|" + rest.substring(at + sentence.length()));
    }

    private static Map<String, String> read() {
        Map<String, String> texts = new LinkedHashMap<>();
        String heading = "What it is";
        boolean code = false;
        for (String line : lines()) {
            code ^= line.startsWith("```");
            heading = headingOf(line).isEmpty() ? heading : headingOf(line);
            if (!code && !isSilent(line)) {
                String mark = line.startsWith("- ") || line.isBlank() ? "|" : " ";
                texts.merge(heading, line, (before, more) -> before + mark + more);
            }
        }
        texts.replaceAll((key, text) -> text.replaceAll("\\s+", " ").replaceAll("\\| ?- ", "|"));
        return texts;
    }

    /** The heading that a line is, or that it begins with; otherwise an empty text. */
    private static String headingOf(String line) {
        if (line.startsWith("Examples: ") || line.equals("The constants:") || line.startsWith("## Promise ")) {
            return line.replaceFirst("^(## )?([^:]*):.*", "$2");
        }
        if (line.startsWith("## ")) {
            return line.substring(3);
        }
        return line.matches("[A-Z]{4}[A-Z ]*") ? line : "";
    }

    /** What the compiler checks already (the signatures), and the words that only order the document. */
    private static boolean isSilent(String line) {
        boolean onlyHeading = !headingOf(line).isEmpty() && !line.startsWith("Examples: ");
        return onlyHeading || line.startsWith("# ") || line.startsWith("`") || line.startsWith("---- ") || line.matches("- `[uvw]`: vertex");
    }

    private static Iterable<String> lines() {
        Path document = Path.of(System.getProperty("project", "."), "..", "shared", "DOC.md");
        try {
            return Files.readAllLines(document);
        } catch (IOException e) {
            throw new IllegalStateException("the document can't be read: " + document, e);
        }
    }
}
