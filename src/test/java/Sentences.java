import java.io.IOException;
import java.nio.charset.StandardCharsets;
import java.nio.file.Files;
import java.nio.file.Path;
import java.util.ArrayList;
import java.util.LinkedHashMap;
import java.util.List;
import java.util.Map;

/** Tests by the document's sentences: says() quotes one, what is due behind it is its test; no words may be left over. */
final class Sentences {
    private static final Path DOCUMENT = Path.of("../shared/DOC.md");

    private final Check check;
    private final String document;
    private final Map<String, boolean[]> told = new LinkedHashMap<>();
    private String section = "";
    private String quote = "";

    Sentences(String name) {
        check = new Check(name);
        String text = "";
        try {
            text = Files.exists(DOCUMENT) ? Files.readString(DOCUMENT, StandardCharsets.UTF_8) : "";
        } catch (IOException e) {
            System.out.println("no document: " + e);
        }
        document = text.replaceAll("```\\w*", " ").replaceAll("\\s+", " ");
    }

    /** The sentences that follow stand between these words of the document. */
    void section(String from, String to) {
        int start = document.indexOf(from) + from.length();
        int end = document.indexOf(to, start);
        section = document.isEmpty() || end < 0 ? "" : document.substring(start, end);
        told.put(section, new boolean[section.length()]);
        check.isTrue("the document has a section from '" + from + "' to '" + to + "'", document.isEmpty() || end > 0);
    }

    void promise(int number) {
        String from = "## Promise " + number + ": ";
        int head = document.indexOf(from);
        int signature = document.indexOf("`: ", Math.max(0, head));
        section(head < 0 || signature < 0 ? from : document.substring(head, signature + 3),
            number < 47 ? "## Promise " + (number + 1) + ": " : "## Not promised");
    }

    void says(String words) {
        quote = words;
        if (section.isEmpty()) {
            return;
        }
        int at = section.indexOf(words);
        check.isTrue("the document says '" + words + "'", at >= 0);
        for (int i = Math.max(at, 0); at >= 0 && i < at + words.length(); i++) {
            told.get(section)[i] = true;
        }
    }

    void due(String call, long got, long want) {
        check.due("'" + quote + "': " + call, got, want);
    }

    void same(String what, String got, String want) {
        check.isTrue("'" + quote + "': " + what, got.equals(want));
    }

    void end() {
        for (Map.Entry<String, boolean[]> part : told.entrySet()) {
            check.isTrue("sentences without a test: " + leftOver(part.getKey(), part.getValue()),
                leftOver(part.getKey(), part.getValue()).isEmpty());
        }
        check.end();
    }

    private static List<String> leftOver(String text, boolean[] seen) {
        List<String> words = new ArrayList<>();
        StringBuilder word = new StringBuilder();
        for (int i = 0; i <= text.length(); i++) {
            if (i < text.length() && !seen[i] && Character.isLetterOrDigit(text.charAt(i))) {
                word.append(text.charAt(i));
            } else if (word.length() > 0) {
                words.add(word.toString());
                word.setLength(0);
            }
        }
        return words;
    }
}
