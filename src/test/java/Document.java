import java.io.IOException;
import java.io.UncheckedIOException;
import java.nio.file.Files;
import java.nio.file.Path;

/** The document's text, so that a test can only quote what stands there. */
final class Document {
    // Tests are run in the project's own directory.
    private static final Path FILE = Path.of("..", "shared", "DOC.md");
    private static final String TEXT = text();

    private Document() {
    }

    private static String text() {
        try {
            return Files.readString(FILE);
        } catch (IOException e) {
            throw new UncheckedIOException(e);
        }
    }

    /** Whether the words stand under the heading, given as far as "Promise 4:" or whole. */
    static boolean says(String heading, String words) {
        int from = TEXT.indexOf("\n## " + heading);
        if (from < 0) {
            return false;
        }
        int to = TEXT.indexOf("\n## ", from + 1);
        return TEXT.substring(from, to < 0 ? TEXT.length() : to).contains(words);
    }
}
