import java.util.ArrayList;
import java.util.LinkedHashMap;
import java.util.List;
import java.util.Map;
import java.util.regex.Matcher;
import java.util.regex.Pattern;

/** The class's face as the document writes it under "The public face". */
final class Face {
    private static final String BLOCK = block();

    private Face() {
    }

    private static String block() {
        String after = Edge.document().split("## The public face")[1];
        return after.split("```")[1];
    }

    /** Its methods: by each name how many numbers it takes. No name comes twice. */
    static Map<String, Integer> methods() {
        Map<String, Integer> all = new LinkedHashMap<>();
        Matcher m = Pattern.compile("public int (\\w+)\\(([^)]*)\\);").matcher(BLOCK);
        while (m.find()) {
            all.put(m.group(1), m.group(2).isEmpty() ? 0 : m.group(2).split(",").length);
        }
        return all;
    }

    /** Every line of it that ends with a semicolon. */
    static List<String> lines() {
        List<String> all = new ArrayList<>();
        for (String line : BLOCK.split("\n")) {
            if (line.trim().endsWith(";")) {
                all.add(line.trim());
            }
        }
        return all;
    }
}
