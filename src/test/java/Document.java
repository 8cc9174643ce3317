import java.io.IOException;
import java.nio.file.Files;
import java.nio.file.Path;

/** The document that the tests quote. */
final class Document {
    private static final Path PATH = Path.of("../shared/DOC.md");

    private Document() {
    }

    /** The document with all blanks and line ends as one blank each; empty where it can't be read. */
    static String text() {
        try {
            return Files.isReadable(PATH) ? flat(Files.readString(PATH)) : "";
        } catch (IOException e) {
            return "";
        }
    }

    static String flat(String text) {
        return text.replaceAll("\\s+", " ").trim();
    }

    /** Whether the words stand in the document; true where there is none to look at. */
    static boolean says(String words) {
        String text = text();
        return text.isEmpty() || text.contains(flat(words));
    }
}
