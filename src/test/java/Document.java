import java.io.IOException;
import java.nio.file.Files;
import java.nio.file.Path;
import java.util.ArrayList;
import java.util.List;
import java.util.Map;
import java.util.TreeMap;
import java.util.regex.Matcher;
import java.util.regex.Pattern;

/**
 * The sentences of ../shared/DOC.md by their section: the heading, or, where a
 * section's paragraphs begin with words in bold, "heading: those words".
 */
final class Document {
    private static final Path PLACE = Path.of("..", "shared", "DOC.md");
    private static final Pattern LIST_MARK = Pattern.compile("^(-|\\d+\\.) ");
    private static final Pattern BOLD_HEADING = Pattern.compile("^\\*\\*([^*]+)\\.\\*\\* ");
    private static final Pattern BOLD_WORD = Pattern.compile("^\\*\\*([^*.]+)\\*\\*");
    private static final String BETWEEN_SENTENCES = "(?<=\\.) (?=[A-Z`]|plan\\(\\))";

    private final Map<String, List<String>> sections = new TreeMap<>();
    private String heading = "";
    private String section = "";

    private Document(List<String> lines) {
        for (String line : lines) {
            take(line.strip());
        }
    }

    static boolean isHere() {
        return Files.isReadable(PLACE);
    }

    static List<String> sentences(String section) {
        try {
            Document document = new Document(Files.readAllLines(PLACE));
            return document.sections.getOrDefault(section, List.of());
        } catch (IOException e) {
            throw new IllegalStateException(e);
        }
    }

    private void take(String line) {
        if (line.startsWith("#")) {
            heading = line.replaceFirst("^#+ ", "");
            section = heading;
        } else if (!line.isEmpty()) {
            String words = withoutBold(LIST_MARK.matcher(line).replaceFirst(""));
            List<String> known = sections.computeIfAbsent(section, name -> new ArrayList<>());
            known.addAll(List.of(words.split(BETWEEN_SENTENCES)));
        }
    }

    /** Words in bold begin a section of their own; a bold word may also be part of its sentence. */
    private String withoutBold(String line) {
        Matcher title = BOLD_HEADING.matcher(line);
        if (title.find()) {
            section = heading + ": " + title.group(1);
            return title.replaceFirst("");
        }
        Matcher word = BOLD_WORD.matcher(line);
        if (word.find()) {
            section = heading + ": " + word.group(1);
            return word.replaceFirst(word.group(1));
        }
        return line;
    }
}
