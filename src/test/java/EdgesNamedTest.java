import java.io.IOException;
import java.nio.charset.StandardCharsets;
import java.nio.file.DirectoryStream;
import java.nio.file.Files;
import java.nio.file.Path;
import java.util.regex.Matcher;
import java.util.regex.Pattern;

/** Each promise has tests of its edges, and each method of those tests is run. */
public final class EdgesNamedTest {
    private static final int PROMISES = 33;

    public static void main(String[] args) throws IOException {
        int[] sentences = new int[PROMISES + 1];
        try (DirectoryStream<Path> files = Files.newDirectoryStream(Path.of("src/test/java"), "EdgesOf*Test.java")) {
            for (Path file : files) {
                String source = Files.readString(file, StandardCharsets.UTF_8);
                count(source, sentences);
                everyTestIsRun(file, source);
            }
        }
        for (int promise = 1; promise <= PROMISES; promise++) {
            Check.holds("promise " + promise + " has a test of its edges", sentences[promise] > 0);
        }
        Check.finish("EdgesNamedTest");
    }

    private static void count(String source, int[] sentences) {
        Matcher m = Pattern.compile("Edge\\.says\\((\\d+),").matcher(source);
        while (m.find()) {
            int promise = Integer.parseInt(m.group(1));
            Check.holds("promise " + promise + " is one of them", promise >= 1 && promise <= PROMISES);
            sentences[Math.max(0, Math.min(promise, PROMISES))]++;
        }
    }

    /** A test that nobody calls tells nothing. */
    private static void everyTestIsRun(Path file, String source) {
        Matcher m = Pattern.compile("private static void (\\w+)\\(\\) \\{\\s+Edge\\.says").matcher(source);
        while (m.find()) {
            boolean called = Pattern.compile("\\n        " + m.group(1) + "\\(\\);").matcher(source).find();
            Check.holds(file.getFileName() + " runs " + m.group(1), called);
        }
    }
}
