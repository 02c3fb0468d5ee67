import java.io.IOException;
import java.nio.charset.StandardCharsets;
import java.nio.file.Files;
import java.nio.file.Path;
import java.util.ArrayList;
import java.util.LinkedHashMap;
import java.util.List;
import java.util.Map;

/** The sentences of ../shared/DOC.md, by the headings of its sections; read from the project's folder. */
final class Document {
    private static final Path FILE = Path.of("../shared/DOC.md");
    private static final String WHAT_IT_IS = "## What it is";
    private static final String TERMS = "## Terms";
    private static final String PROMISE = "## Promise ";
    /** How sentences begin that promise nothing: the one on the whole, and those on the layout of the face. */
    private static final String PROMISES_NOTHING = "^(Tollkeeper, a road toll system|Ahead of the calls ).*";

    private final Map<String, List<String>> sections = new LinkedHashMap<>();

    private Document() {
    }

    /** The sections of 'What it is', of 'Terms' and of the promises. */
    static Document read() throws IOException {
        Document document = new Document();
        String part = "";
        String heading = "";
        for (String line : Files.readAllLines(FILE, StandardCharsets.UTF_8)) {
            if (line.startsWith("#")) {
                part = line.startsWith("## ") ? line : part;
                heading = line.replaceFirst("^#+ ", "");
            } else if (part.equals(WHAT_IT_IS) || part.equals(TERMS)) {
                document.addAll(heading, line.split("(?<=\\.) (?=[A-Z])"));
            } else if (part.startsWith(PROMISE)) {
                // A signature says nothing that the lines below it don't say.
                document.addAll(heading, line.replaceFirst("^`.*?`: (?=[A-Z])", ""));
            }
        }
        return document;
    }

    private void addAll(String heading, String... sentences) {
        for (String sentence : sentences) {
            if (!sentence.isBlank() && !sentence.matches(PROMISES_NOTHING)) {
                sections.computeIfAbsent(heading, none -> new ArrayList<>()).add(sentence);
            }
        }
    }

    Map<String, List<String>> sections() {
        return sections;
    }

    boolean has(String heading, String sentence) {
        return sections.getOrDefault(heading, List.of()).contains(sentence);
    }
}
