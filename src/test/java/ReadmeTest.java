import java.io.IOException;
import java.net.URL;
import java.net.URLClassLoader;
import java.nio.charset.StandardCharsets;
import java.nio.file.Files;
import java.nio.file.Path;
import java.util.ArrayList;
import java.util.List;
import java.util.regex.Matcher;
import java.util.regex.Pattern;
import java.util.stream.Stream;
import javax.tools.JavaCompiler;
import javax.tools.ToolProvider;

/** The examples of README.md: they compile, and each call answers the number that stands behind it. */
public final class ReadmeTest {
    private static final Pattern BLOCK = Pattern.compile("```java\\n(.*?)```", Pattern.DOTALL);
    private static final Pattern LINE = Pattern.compile("\\s*(?:int (\\w+) = )?(.*);\\s*// (-?\\d+).*");

    private static final String HEAD = "public final class ReadmeExamples {\n"
            + "    public static java.util.List<Object[]> run() {\n"
            + "        java.util.List<Object[]> told = new java.util.ArrayList<>();\n";

    public static void main(String[] args) throws IOException, ReflectiveOperationException {
        Check.about("README.md");
        String readme = Files.readString(Path.of("README.md"), StandardCharsets.UTF_8);
        List<String> examples = new ArrayList<>();
        StringBuilder classes = new StringBuilder();
        Matcher m = BLOCK.matcher(readme);
        while (m.find()) {
            if (m.group(1).contains("class ")) {
                classes.append(m.group(1));
            } else {
                examples.add(m.group(1));
            }
        }
        Check.holds("there are examples", examples.size() > 1);
        run(source(examples) + classes);
        everyTestIsNamed(readme);
        Check.finish("ReadmeTest");
    }

    private static String source(List<String> examples) {
        StringBuilder all = new StringBuilder(HEAD);
        for (String example : examples) {
            all.append("        {\n");
            for (String line : example.split("\n")) {
                all.append("        ").append(checked(line)).append('\n');
            }
            all.append("        }\n");
        }
        return all.append("        return told;\n    }\n}\n").toString();
    }

    /** A line with a number behind it: the call must answer that. */
    private static String checked(String line) {
        Matcher m = LINE.matcher(line);
        if (!m.matches()) {
            return line;
        }
        String call = m.group(2);
        String name = "\"" + call.replace("\\", "\\\\").replace("\"", "\\\"") + "\"";
        String due = "told.add(new Object[] {" + name + ", " + (m.group(1) == null ? call : m.group(1)) + ", " + m.group(3) + "});";
        return m.group(1) == null ? due : "int " + m.group(1) + " = " + call + "; " + due;
    }

    private static void run(String source) throws IOException, ReflectiveOperationException {
        Path place = Files.createTempDirectory("readme");
        try {
            Path file = place.resolve("ReadmeExamples.java");
            Files.writeString(file, source, StandardCharsets.UTF_8);
            JavaCompiler compiler = ToolProvider.getSystemJavaCompiler();
            int told = compiler.run(null, null, null, "-cp", System.getProperty("java.class.path"), "-d", place.toString(), file.toString());
            Check.due("javac on the examples", told, 0);
            if (told == 0) {
                try (URLClassLoader loader = new URLClassLoader(new URL[] {place.toUri().toURL()})) {
                    List<?> answers = (List<?>) loader.loadClass("ReadmeExamples").getMethod("run").invoke(null);
                    for (Object answer : answers) {
                        Object[] row = (Object[]) answer;
                        Check.due((String) row[0], (Integer) row[1], (Integer) row[2]);
                    }
                    Check.holds("calls with an answer", answers.size() > 50);
                }
            }
        } finally {
            remove(place);
        }
    }

    private static void remove(Path place) throws IOException {
        try (Stream<Path> files = Files.list(place)) {
            for (Path file : (Iterable<Path>) files::iterator) {
                Files.delete(file);
            }
        }
        Files.delete(place);
    }

    /** Each test is named there, but those of the edges, which are named together. */
    private static void everyTestIsNamed(String readme) throws IOException {
        try (Stream<Path> files = Files.list(Path.of("src/test/java"))) {
            for (Path file : (Iterable<Path>) files::iterator) {
                String name = file.getFileName().toString().replace(".java", "");
                boolean named = !name.endsWith("Test") || name.startsWith("EdgesOf") || readme.contains("`" + name + "`");
                Check.holds("README.md names " + name, named);
            }
        }
    }
}
