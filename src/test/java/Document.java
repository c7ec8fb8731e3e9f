import java.io.IOException;
import java.nio.file.Files;
import java.nio.file.Path;
import java.util.ArrayList;
import java.util.List;

/** The sentences of ../shared/DOC.md, each behind the heading that it stands under. */
final class Document {
    private static final Path FILE = Path.of("../shared/DOC.md");

    private final List<String> sentences = new ArrayList<>();
    private String heading = "";

    private Document() {
    }

    static boolean isThere() {
        return Files.exists(FILE);
    }

    static List<String> sentences() throws IOException {
        Document document = new Document();
        boolean isCode = false;
        for (String line : Files.readAllLines(FILE)) {
            if (line.startsWith("```")) {
                isCode = !isCode;
            } else if (isCode) {
                document.add(line.trim());
            } else {
                document.readLine(line.replace("`", ""));
            }
        }
        return document.sentences;
    }

    static String named(String heading, String sentence) {
        return heading + " | " + sentence;
    }

    private void readLine(String line) {
        if (line.startsWith("#")) {
            heading = line.replaceAll("^#+ ", "");
            return;
        }
        boolean isList = line.startsWith("- ");
        boolean isAnswer = heading.startsWith("Promise") && line.startsWith("Returns ");
        String text = isList ? line.substring(2) : line;
        for (String sentence : text.split(isList || isAnswer ? "; " : "(?<=\\.) ")) {
            add(sentence);
        }
    }

    private void add(String sentence) {
        if (!sentence.isEmpty()) {
            sentences.add(named(heading, sentence));
        }
    }
}
