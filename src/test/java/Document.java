import java.nio.file.Path;
import java.util.BitSet;
import java.util.LinkedHashMap;
import java.util.Map;
import java.util.regex.Matcher;
import java.util.regex.Pattern;

/**
 * The words of ../shared/DOC.md. The test of a sentence begins with the sentence itself; in the end each
 * word of the terms (parts "I" to "IV") and of the promises ("1" to "38") has been told by some test.
 */
final class Document {
    private static final Path FILE = Path.of("../shared/DOC.md");
    private static final Map<String, String> PARTS = parts();
    private static final Map<String, BitSet> TOLD = new LinkedHashMap<>();

    private Document() {
    }

    static String text() {
        return Compiled.text(FILE);
    }

    private static Map<String, String> parts() {
        String all = text();
        String terms = all.substring(all.indexOf("## Terms"), all.indexOf("## Promise 1:"));
        String promises = all.substring(all.indexOf("## Promise 1:"), all.indexOf("## Not promised"));
        Map<String, String> parts = new LinkedHashMap<>();
        split(parts, terms, "(?m)^(I|II|III|IV)\\. ");
        split(parts, promises, "(?m)^## Promise (\\d+): .*\\s+`[^`]*`: ");
        return parts;
    }

    private static void split(Map<String, String> parts, String text, String start) {
        Matcher m = Pattern.compile(start).matcher(text);
        String name = null;
        int from = 0;
        while (m.find()) {
            if (name != null) {
                parts.put(name, plain(text.substring(from, m.start())));
            }
            name = m.group(1);
            from = m.end();
        }
        parts.put(name, plain(text.substring(from)));
    }

    private static String plain(String text) {
        return text.replaceAll("```(text)?", " ").replaceAll("\\s+", " ").trim();
    }

    /** From now on checks are of this sentence of a part, told in one piece or in several. */
    static void says(String part, String... pieces) {
        Check.sentence(part + ": " + String.join(" .. ", pieces));
        for (String piece : pieces) {
            tell(part, plain(piece));
        }
    }

    private static void tell(String part, String piece) {
        String text = PARTS.getOrDefault(part, "");
        BitSet told = TOLD.computeIfAbsent(part, p -> new BitSet());
        int at = text.indexOf(piece);
        for (int next = at; next >= 0; next = text.indexOf(piece, next + 1)) {
            if (told.nextClearBit(next) < next + piece.length()) {
                at = next;
                break;
            }
        }
        Check.due("the document says '" + piece + "' in " + part, at >= 0, true);
        if (at >= 0) {
            told.set(at, at + piece.length());
        }
    }

    /** Words that no test has told are failures. */
    static void end() {
        Check.sentence(null);
        Check.due("parts of the document", PARTS.size(), 42);
        for (Map.Entry<String, String> part : PARTS.entrySet()) {
            BitSet told = TOLD.getOrDefault(part.getKey(), new BitSet());
            String text = part.getValue();
            for (int from = told.nextClearBit(0); from < text.length();) {
                int to = told.nextSetBit(from);
                String untold = text.substring(from, to < 0 ? text.length() : to);
                boolean hasWords = untold.chars().anyMatch(Character::isLetterOrDigit);
                Check.due("no test tells, of " + part.getKey() + ", '" + untold + "'", hasWords, false);
                from = to < 0 ? text.length() : told.nextClearBit(to);
            }
        }
    }
}
