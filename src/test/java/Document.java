import java.io.IOException;
import java.nio.file.Files;
import java.nio.file.Path;
import java.util.ArrayList;
import java.util.BitSet;
import java.util.LinkedHashMap;
import java.util.List;
import java.util.Map;

/** The document by its sections, to find out which of its words no test quotes. */
final class Document {
    private final Map<String, String> texts = new LinkedHashMap<>();
    private final Map<String, BitSet> quoted = new LinkedHashMap<>();

    private Document() {
    }

    static Document read(Path path) throws IOException {
        Document document = new Document();
        String section = "";
        for (String line : Files.readAllLines(path)) {
            if (line.startsWith("#")) {
                section = line.replaceAll("^#+ *", "").replaceAll(":.*", "");
            } else if (line.matches("[A-Z][A-Z ]+")) {
                section = line;
            } else if (!line.matches("`[^`]*`")) {
                // A line that is all code repeats the signature: FaceTest looks after those.
                document.texts.merge(section, line, (a, b) -> a + " " + b);
            }
        }
        document.texts.replaceAll((name, text) -> oneLine(text));
        return document;
    }

    private static String oneLine(String text) {
        return text.replaceAll("\\s+", " ").trim();
    }

    /** Marks words as quoted; false if they do not stand in the section. */
    boolean quote(String section, String words) {
        String text = texts.getOrDefault(section, "");
        String sought = oneLine(words);
        int at = text.indexOf(sought);
        boolean found = at >= 0 && !sought.isEmpty();
        while (at >= 0 && found) {
            quoted.computeIfAbsent(section, name -> new BitSet()).set(at, at + sought.length());
            at = text.indexOf(sought, at + 1);
        }
        return found;
    }

    /** The words of a section that have not been quoted. */
    List<String> notQuoted(String section) {
        List<String> rests = new ArrayList<>();
        String text = texts.getOrDefault(section, "");
        BitSet marks = quoted.getOrDefault(section, new BitSet());
        int from = marks.nextClearBit(0);
        while (from < text.length()) {
            int next = marks.nextSetBit(from);
            int to = next < 0 ? text.length() : next;
            String rest = text.substring(from, to);
            if (rest.matches(".*[A-Za-z0-9].*")) {
                rests.add(rest.trim());
            }
            from = marks.nextClearBit(to);
        }
        return rests;
    }

    List<String> sections() {
        return new ArrayList<>(texts.keySet());
    }
}
