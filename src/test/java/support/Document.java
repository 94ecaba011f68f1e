import java.io.IOException;
import java.nio.file.Files;
import java.nio.file.Path;
import java.util.BitSet;
import java.util.HashMap;
import java.util.Map;

/** The sections of the document, and which of their words a test has quoted. */
final class Document {
    private static final Path PLACE = Path.of("../shared/DOC.md");
    private final String whole;
    private final Map<String, String> sections = new HashMap<>();
    private final Map<String, BitSet> quoted = new HashMap<>();

    Document() {
        whole = read();
        if (isThere()) {
            keep("object", "## What it is", "## The public face");
            keep("terms", "## Terms", "======== 1");
            keep("terms 1", "======== 1", "======== 2");
            keep("terms 2", "======== 2", "======== 3");
            keep("terms 3", "======== 3", "Ahead of the calls");
            for (int k = 1; k <= 34; k++) {
                keep("promise " + k, "## Promise " + k + ":", "## ");
            }
        }
    }

    private static String read() {
        try {
            return Files.readString(PLACE);
        } catch (IOException e) {
            return "";
        }
    }

    /** Names are looked up in the document only where it lies beside the tests. */
    boolean isThere() {
        return !whole.isEmpty();
    }

    private void keep(String key, String from, String to) {
        int start = whole.indexOf(from) + from.length();
        int end = whole.indexOf(to, start);
        String text = whole.substring(start, end < 0 ? whole.length() : end);
        if (key.startsWith("promise")) {
            text = text.substring(text.indexOf("`: ") + 3);
        }
        sections.put(key, text.replace("```text", " ").replace("```", " ").replaceAll("\\s+", " ").trim());
        quoted.put(key, new BitSet());
    }

    /** Whether the section says so; what is quoted is kept. */
    boolean says(String key, String sentence) {
        String text = sections.getOrDefault(key, "");
        int at = text.indexOf(sentence);
        if (at < 0) {
            return false;
        }
        quoted.get(key).set(at, at + sentence.length());
        return true;
    }

    /** The words of a section that no test has quoted. */
    String notQuoted(String key) {
        String text = sections.getOrDefault(key, "");
        StringBuilder rest = new StringBuilder();
        for (int i = 0; i < text.length(); i++) {
            boolean open = !quoted.get(key).get(i) && Character.isLetterOrDigit(text.charAt(i));
            rest.append(open ? text.charAt(i) : ' ');
        }
        return rest.toString().replaceAll(" +", " ").trim();
    }
}
