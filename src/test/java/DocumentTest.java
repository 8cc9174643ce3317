import java.io.IOException;
import java.nio.file.Files;
import java.nio.file.Path;
import java.util.ArrayList;
import java.util.List;
import java.util.regex.Matcher;
import java.util.regex.Pattern;
import java.util.stream.Stream;

/** Every sentence of the document, from its first line to its last promise, is quoted by a test that holds the class to it. */
public final class DocumentTest {
    private static final Due due = new Due("DocumentTest");
    private static final Pattern QUOTE = Pattern.compile("\\bquote\\(((?:\\s*\\+?\\s*\"[^\"]*\")+)\\)");
    private static final Pattern LITERAL = Pattern.compile("\"([^\"]*)\"");
    /** Headings, a promise's face and the marks of a text are no sentences; LanguageTest looks at the public face. */
    private static final Pattern FACE = Pattern.compile("## Promise \\d+: [A-Za-z ]+? `[^`]*`:|==== \\d\\.|```java[^`]*```"
        + "|```(?:text)?|# NoonSquare|## What it is|## The public face|## Terms");

    public static void main(String[] args) throws IOException {
        String text = Document.text();
        if (text.isEmpty()) {
            System.out.println("DocumentTest: there is no document to look at");
            return;
        }
        int to = text.indexOf("## Not promised");
        due.yes("the document has an end", to > 0);
        String body = text.substring(0, Math.max(0, to));
        boolean[] isQuoted = new boolean[body.length()];
        for (String quote : quotes()) {
            mark(body, quote, isQuoted);
        }
        Matcher face = FACE.matcher(body);
        int promises = 0;
        while (face.find()) {
            fill(isQuoted, face.start(), face.end());
            promises += face.group().startsWith("## Promise") ? 1 : 0;
        }
        due.is("promises", promises, 30);
        tellUnquoted(body, isQuoted);
        due.end();
    }

    private static List<String> quotes() throws IOException {
        List<String> all = new ArrayList<>();
        List<Path> files;
        try (Stream<Path> list = Files.list(Path.of("src/test/java"))) {
            files = list.filter(path -> path.toString().endsWith("Test.java")).toList();
        }
        for (Path file : files) {
            Matcher quote = QUOTE.matcher(Files.readString(file));
            while (quote.find()) {
                StringBuilder words = new StringBuilder();
                Matcher literal = LITERAL.matcher(quote.group(1));
                while (literal.find()) {
                    words.append(literal.group(1));
                }
                all.add(Document.flat(words.toString()));
            }
        }
        return all;
    }

    private static void mark(String body, String quote, boolean[] isQuoted) {
        for (int at = body.indexOf(quote); at >= 0; at = body.indexOf(quote, at + 1)) {
            fill(isQuoted, at, at + quote.length());
        }
    }

    private static void fill(boolean[] row, int from, int to) {
        for (int i = from; i < to; i++) {
            row[i] = true;
        }
    }

    private static void tellUnquoted(String body, boolean[] isQuoted) {
        StringBuilder unquoted = new StringBuilder();
        for (int i = 0; i < body.length(); i++) {
            unquoted.append(isQuoted[i] ? '\n' : body.charAt(i));
        }
        for (String words : unquoted.toString().split("\n+")) {
            due.yes("quoted by a test: [" + words + "]", words.isBlank());
        }
    }
}
