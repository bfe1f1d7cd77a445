import java.io.IOException;
import java.io.UncheckedIOException;
import java.nio.file.Files;
import java.nio.file.Path;
import java.util.ArrayList;
import java.util.LinkedHashMap;
import java.util.List;
import java.util.Map;

/** The words of the document, by headings, and which of them a test has named so far. */
final class Document {

    private static final String PATH = "../shared/DOC.md";

    private final Map<String, String> texts = new LinkedHashMap<>();
    private final Map<String, boolean[]> named = new LinkedHashMap<>();

    Document() {
        try {
            for (String part : Files.readString(Path.of(PATH)).split("(?m)^## ")) {
                int end = part.indexOf('\n');
                if (end > 0) {
                    String text = plain(part.substring(end));
                    texts.put(part.substring(0, end).trim(), text);
                    named.put(part.substring(0, end).trim(), new boolean[text.length()]);
                }
            }
        } catch (IOException e) {
            throw new UncheckedIOException(e);
        }
    }

    /** Without fences, the signature ahead of a promise and the numbers of the terms' parts, in one line. */
    private static String plain(String text) {
        String words = text.replace("```text", " ").replace("```", " ");
        words = words.replaceFirst("^\\s*`[^`]*`:", " ");
        return words.replaceAll("==== [IV]+\\.", " ").replaceAll("\\s+", " ").trim();
    }

    /** The whole heading that begins so, null if there is none. */
    String heading(String beginning) {
        for (String heading : texts.keySet()) {
            if (heading.startsWith(beginning)) {
                return heading;
            }
        }
        return null;
    }

    /** Whether the words stand under the heading; they are named from now on. */
    boolean name(String heading, String words) {
        if (heading == null) {
            return false;
        }
        String text = texts.get(heading);
        boolean[] marks = named.get(heading);
        int at = text.indexOf(words);
        boolean found = at >= 0;
        while (at >= 0) {
            for (int i = at; i < at + words.length(); i++) {
                marks[i] = true;
            }
            at = text.indexOf(words, at + 1);
        }
        return found;
    }

    /** What of the terms and the promises no test has named, each passage with its heading ahead. */
    List<String> unnamed() {
        List<String> passages = new ArrayList<>();
        for (String heading : texts.keySet()) {
            if (heading.equals("Terms") || heading.startsWith("Promise ")) {
                addUnnamed(heading, passages);
            }
        }
        return passages;
    }

    private void addUnnamed(String heading, List<String> passages) {
        String text = texts.get(heading);
        boolean[] marks = named.get(heading);
        int at = 0;
        while (at < text.length()) {
            int end = at;
            while (end < text.length() && marks[end] == marks[at]) {
                end++;
            }
            String passage = text.substring(at, end);
            if (!marks[at] && passage.chars().anyMatch(Character::isLetterOrDigit)) {
                passages.add(heading + ": " + passage.trim());
            }
            at = end;
        }
    }
}
