import java.io.IOException;
import java.io.UncheckedIOException;
import java.nio.charset.StandardCharsets;
import java.nio.file.Files;
import java.nio.file.Path;

/** The sentence of the document that the checks behind it are about; it is told with each that fails. */
final class Edge {
    private static final String DOCUMENT = read("../shared/DOC.md");
    private static final String PLAIN = plain(DOCUMENT);

    private Edge() {
    }

    /** Begins the test of a sentence, for a promise; the words must stand in the document as they are here. */
    static void says(int promise, String sentence) {
        Check.about("promise " + promise + ": \"" + sentence + "\"");
        Check.holds("the document says so", PLAIN.contains(plain(sentence)));
        Check.holds("there is such a promise", promise >= 1 && promise <= 33);
    }

    /** The document as it is. */
    static String document() {
        return DOCUMENT;
    }

    /** A text on one line, without the signs that only set it. */
    static String plain(String text) {
        return text.replace("`", "").replaceAll("\\s+", " ");
    }

    static String read(String path) {
        try {
            return Files.readString(Path.of(path), StandardCharsets.UTF_8);
        } catch (IOException e) {
            throw new UncheckedIOException(e);
        }
    }
}
