import java.io.IOException;
import java.nio.file.Files;
import java.nio.file.Path;
import java.util.Map;
import java.util.TreeMap;

/**
 * The document's sentences, as the boundary tests quote them. Each quote must stand in the document, in the part that it
 * is quoted from; at the end no word of the terms and the promises may be left that no test has quoted.
 */
final class Sentences {
    static final int TERMS = 0;
    private static final int PROMISES = 27;
    private static final Path DOCUMENT = Path.of("../shared/DOC.md");

    private static final Map<Integer, String> PARTS = new TreeMap<>();
    private static final Map<Integer, boolean[]> QUOTED = new TreeMap<>();

    private Sentences() {
    }

    static void read() throws IOException {
        String text = Files.readString(DOCUMENT);
        addPart(TERMS, between(text, "## Terms", "## Promise 1:"));
        for (int promise = 1; promise <= PROMISES; promise++) {
            String next = promise == PROMISES ? "## Not promised" : "## Promise " + (promise + 1) + ":";
            String part = between(text, "## Promise " + promise + ":", next);
            addPart(promise, part.substring(part.indexOf("`:") + 2));
        }
    }

    private static String between(String text, String from, String to) {
        int begin = text.indexOf(from);
        int end = text.indexOf(to);
        if (begin < 0 || end < begin) {
            throw new IllegalStateException("the document has no part from " + from + " to " + to);
        }
        return text.substring(begin + from.length(), end);
    }

    private static void addPart(int part, String text) {
        String plain = text.replace("```text", "").replace("```", "").replaceAll("==== [0-9]+\\.", "").replaceAll("\\s+", " ");
        PARTS.put(part, plain);
        QUOTED.put(part, new boolean[plain.length()]);
    }

    /** The test that follows is about this sentence of a promise (TERMS: of the terms). */
    static void test(int part, String quote) {
        String name = part == TERMS ? "Terms" : "Promise " + part;
        Check.about(name + ": \"" + quote + "\"");
        int begin = PARTS.get(part).indexOf(quote);
        if (begin < 0) {
            Check.fail("does not stand in the document");
            return;
        }
        for (int i = begin; i < begin + quote.length(); i++) {
            QUOTED.get(part)[i] = true;
        }
    }

    static void dueAllQuoted() {
        for (int part : PARTS.keySet()) {
            Check.about(part == TERMS ? "Terms" : "Promise " + part);
            StringBuilder left = new StringBuilder();
            String text = PARTS.get(part);
            for (int i = 0; i < text.length(); i++) {
                if (!QUOTED.get(part)[i] && Character.isLetterOrDigit(text.charAt(i))) {
                    left.append(text.charAt(i));
                } else if (left.length() > 0 && left.charAt(left.length() - 1) != ' ') {
                    left.append(' ');
                }
            }
            if (!left.toString().isBlank()) {
                Check.fail("no test quotes: " + left);
            }
        }
    }
}
