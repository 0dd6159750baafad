import java.io.IOException;
import java.nio.charset.StandardCharsets;
import java.nio.file.Files;
import java.nio.file.Path;
import java.util.ArrayList;
import java.util.LinkedHashMap;
import java.util.List;
import java.util.Map;

/**
 * The document's sections, each as the list of its sentences, and the lines of its face; a sentence ends with a full stop, a
 * semicolon or its paragraph.
 */
final class Document {
    private final Map<String, List<String>> sections = new LinkedHashMap<>();
    private final List<String> face = new ArrayList<>();
    private final StringBuilder paragraph = new StringBuilder();
    private List<String> sentences = new ArrayList<>();

    Document(Path file) throws IOException {
        boolean code = false;
        for (String line : Files.readAllLines(file, StandardCharsets.UTF_8)) {
            code ^= line.startsWith("```");
            if (!code) {
                read(line);
            } else if (!line.startsWith("```")) {
                face.add(line.strip());
            }
        }
        endParagraph();
    }

    /** The sentences of the section whose heading is this, or begins with this and a colon. */
    List<String> sentencesOf(String section) {
        return sections.getOrDefault(section, List.of());
    }

    /** The lines of the class as the document shows it, which is its only code. */
    List<String> face() {
        return face;
    }

    private void read(String line) {
        boolean isBullet = line.startsWith("- ");
        boolean isText = !line.isBlank() && !line.startsWith("`") && !line.startsWith("----");
        if (line.startsWith("#") || isBullet || !isText) {
            endParagraph();
        }
        if (line.startsWith("#")) {
            sentences = new ArrayList<>();
            sections.put(line.replaceFirst("^#+ ", "").replaceFirst(":.*", ""), sentences);
        } else if (isText) {
            paragraph.append(isBullet ? line.substring(2) : line).append(' ');
        }
    }

    private void endParagraph() {
        for (String sentence : paragraph.toString().split("(?<=[.;]) +")) {
            if (!sentence.isBlank()) {
                sentences.add(sentence.strip());
            }
        }
        paragraph.setLength(0);
    }
}
