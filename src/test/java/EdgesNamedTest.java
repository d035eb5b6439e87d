import java.io.IOException;
import java.nio.charset.StandardCharsets;
import java.nio.file.DirectoryStream;
import java.nio.file.Files;
import java.nio.file.Path;
import java.util.ArrayList;
import java.util.List;
import java.util.regex.Matcher;
import java.util.regex.Pattern;

/**
 * What the tests themselves must be: each sentence of the document has one, each method of those tests is run, and each
 * table that is asked has its calls counted.
 */
public final class EdgesNamedTest {
    private static final int PROMISES = 33;
    /** What no test can hold the class to. */
    private static final String FREE = "what later calls answer is free.";

    public static void main(String[] args) throws IOException {
        int[] sentences = new int[PROMISES + 1];
        List<String> quotes = new ArrayList<>();
        try (DirectoryStream<Path> files = Files.newDirectoryStream(Path.of("src/test/java"), "*.java")) {
            for (Path file : files) {
                String name = file.getFileName().toString();
                String source = Files.readString(file, StandardCharsets.UTF_8);
                if (name.startsWith("EdgesOf")) {
                    count(source, sentences);
                    everyTestIsRun(name, source);
                    addQuotes(source, quotes);
                }
                callsAreCounted(name, source);
            }
        }
        for (int promise = 1; promise <= PROMISES; promise++) {
            Check.holds("promise " + promise + " has a test of its edges", sentences[promise] > 0);
        }
        everyWordIsQuoted(quotes);
        Check.finish("EdgesNamedTest");
    }

    private static void count(String source, int[] sentences) {
        Matcher m = Pattern.compile("Edge\\.says\\((\\d+),").matcher(source);
        while (m.find()) {
            int promise = Integer.parseInt(m.group(1));
            Check.holds("promise " + promise + " is one of them", promise >= 1 && promise <= PROMISES);
            sentences[Math.max(0, Math.min(promise, PROMISES))]++;
        }
    }

    /** A test that nobody calls tells nothing. */
    private static void everyTestIsRun(String name, String source) {
        Matcher m = Pattern.compile("private static void (\\w+)\\(\\) \\{\\s+Edge\\.says").matcher(source);
        while (m.find()) {
            boolean called = Pattern.compile("\\n        " + m.group(1) + "\\(\\);").matcher(source).find();
            Check.holds(name + " runs " + m.group(1), called);
        }
    }

    /** Behind an object's 512th call nothing is promised: a Counted one fails there, so all must be such. */
    private static void callsAreCounted(String name, String source) {
        boolean made = Pattern.compile("new\\s+TopSays\\s*\\(").matcher(source).find();
        Check.holds(name + " asks tables whose calls are counted", !made || name.equals("Counted.java"));
    }

    private static void addQuotes(String source, List<String> quotes) {
        String text = "\"((?:[^\"\\\\]|\\\\.)*)\"";
        Matcher m = Pattern.compile("Edge\\.says\\(\\d+,\\s*(" + text + "(?:\\s*\\+\\s*" + text + ")*)\\)").matcher(source);
        while (m.find()) {
            StringBuilder all = new StringBuilder();
            Matcher part = Pattern.compile(text).matcher(m.group(1));
            while (part.find()) {
                all.append(part.group(1).replace("\\\"", "\""));
            }
            quotes.add(Edge.plain(all.toString()));
        }
    }

    /** Terms and promises, without headings, the methods' first lines and the numbers of the terms. */
    private static String sentences() {
        String all = Edge.document().split("## What it is")[1].split("## Not promised")[0];
        all = all.replaceAll("(?s)```java.*?```", " ").replaceAll("```(text)?", " ").replaceAll("(?m)^#.*$", " ")
                .replaceAll("(?m)^`(int )?\\w+\\([^`]*\\)`:", " ").replaceAll("(?m)^(I|II|III|IV)\\. ", " ");
        return Edge.plain(all.replace(FREE, " "));
    }

    private static void everyWordIsQuoted(List<String> quotes) {
        String sentences = sentences();
        boolean[] quoted = new boolean[sentences.length()];
        for (String quote : quotes) {
            for (int at = sentences.indexOf(quote); at >= 0; at = sentences.indexOf(quote, at + 1)) {
                for (int i = at; i < at + quote.length(); i++) {
                    quoted[i] = true;
                }
            }
        }
        StringBuilder left = new StringBuilder();
        for (int i = 0; i < quoted.length; i++) {
            left.append(quoted[i] ? '\n' : sentences.charAt(i));
        }
        for (String words : left.toString().split("\n+")) {
            Check.holds("a test quotes: " + words, !words.matches(".*[A-Za-z0-9].*"));
        }
    }
}
