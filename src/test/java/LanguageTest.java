import java.io.IOException;
import java.lang.reflect.Field;
import java.lang.reflect.Method;
import java.lang.reflect.Modifier;
import java.nio.charset.StandardCharsets;
import java.nio.file.Files;
import java.nio.file.Path;
import java.util.HashSet;
import java.util.List;
import java.util.Set;
import java.util.TreeSet;
import java.util.regex.Matcher;
import java.util.regex.Pattern;

/** The rules of LANGUAGE.md that can be seen from the source and from the compiled class. */
public final class LanguageTest {
    private static final String FACE = "feed/5 end/1 heap/0 of/2 terms/2 law/0 orders/0 fault/0 stopped/0 force/1 step/1 swap/3 "
            + "cut/2 undo/0 goes/2 after/3 longest/2 orderly/2 to/3 cheat/2 odds/4 sight/2 forget/0 fits/3 race/2 sorted/2 "
            + "evenings/3 drawn/1 image/1 back/1 count/1 status/0";

    public static void main(String[] args) throws IOException {
        String source = new String(Files.readAllBytes(Path.of("src/main/java/TopSays.java")), StandardCharsets.ISO_8859_1);
        face();
        members();
        signs(source);
        String code = bare(source);
        forbidden(code);
        library(code);
        lengths(source);
        Check.finish("LanguageTest");
    }

    private static void face() {
        Set<String> due = new TreeSet<>(List.of(FACE.split(" ")));
        Set<String> has = new TreeSet<>();
        for (Method m : TopSays.class.getDeclaredMethods()) {
            if (Modifier.isPublic(m.getModifiers())) {
                has.add(m.getName() + "/" + m.getParameterCount());
                Check.holds(m + " answers an int", m.getReturnType() == int.class);
                Check.holds(m + " is no static one", !Modifier.isStatic(m.getModifiers()));
                for (Class<?> type : m.getParameterTypes()) {
                    Check.holds(m + " takes ints", type == int.class);
                }
            } else {
                Check.holds(m + " is private", Modifier.isPrivate(m.getModifiers()));
            }
        }
        Check.holds("the face is " + due + ", not " + has, due.equals(has));
        Check.holds("the class is public and final", Modifier.isPublic(TopSays.class.getModifiers())
                && Modifier.isFinal(TopSays.class.getModifiers()));
        Check.due("constructors", TopSays.class.getDeclaredConstructors().length, 1);
        for (Field f : TopSays.class.getDeclaredFields()) {
            Check.holds(f + " is private, but NONE", Modifier.isPrivate(f.getModifiers()) || f.getName().equals("NONE"));
        }
    }

    private static void members() {
        Set<String> names = new HashSet<>();
        for (String name : FACE.split(" ")) {
            names.add(name.replaceAll("/.*", ""));
        }
        List<Class<?>> all = new java.util.ArrayList<>(List.of(TopSays.class.getDeclaredClasses()));
        Check.holds("twelve classes at most", all.size() + 1 <= 12);
        all.add(TopSays.class);
        for (Class<?> c : all) {
            if (c != TopSays.class) {
                Check.holds(c + " is private", Modifier.isPrivate(c.getModifiers()));
                Check.holds(c + " is static", Modifier.isStatic(c.getModifiers()));
                Check.due("classes inside " + c, c.getDeclaredClasses().length, 0);
            }
            int fields = 0;
            for (Field f : c.getDeclaredFields()) {
                boolean fixed = Modifier.isStatic(f.getModifiers());
                fields += fixed ? 0 : 1;
                Check.holds(f + " is final, if static", !fixed || Modifier.isFinal(f.getModifiers()));
                Check.holds(f + " is a number or a text, if static", !fixed || f.getType().isPrimitive()
                        || f.getType() == String.class || f.getType() == int[].class);
            }
            Check.holds(c + " has twenty fields at most: " + fields, fields <= 20);
            for (Method m : c.getDeclaredMethods()) {
                Check.holds(m + " takes seven at most", m.getParameterCount() <= 7);
                Check.holds(m + " bears no public name", Modifier.isPublic(m.getModifiers()) || !names.contains(m.getName()));
                Check.holds(m + " is no lambda", !m.isSynthetic());
            }
        }
    }

    private static void signs(String source) {
        boolean plain = true;
        for (int i = 0; i < source.length(); i++) {
            char sign = source.charAt(i);
            plain = plain && (sign == '\n' || sign >= 32 && sign < 127);
        }
        Check.holds("the source has plain signs alone", plain);
    }

    /** The source without comments, texts and single signs. */
    private static String bare(String source) {
        return source.replaceAll("(?s)/\\*.*?\\*/", " ").replaceAll("//[^\n]*", " ")
                .replaceAll("\"(\\\\.|[^\"\\\\])*\"", "\"\"").replaceAll("'(\\\\.|[^'\\\\])'", "' '");
    }

    private static void forbidden(String code) {
        for (String word : List.of("throw", "throws", "try", "catch", "finally", "synchronized", "assert", "package", "native",
                "volatile", "transient", "protected", "double", "float", "Object", "equals", "hashCode", "toString", "Thread",
                "Random", "Integer.valueOf", "var", "yield", "record", "super", "goto")) {
            Check.holds("no " + word, !Pattern.compile("\\b" + word + "\\b").matcher(code).find());
        }
        Check.holds("no lambda", !code.contains("->"));
        Check.holds("no method reference", !code.contains("::"));
        Check.holds("no Exact", !code.contains("Exact("));
        Check.holds("no joined texts", !Pattern.compile("\"\\s*\\+|\\+\\s*\"").matcher(code).find());
        Check.holds("no loop without an end", !Pattern.compile("while\\s*\\(\\s*true|for\\s*\\([^;]*;\\s*;").matcher(code).find());
        Check.holds("no two-dimensional arrays", !code.contains("[][]"));
        Check.due("public things", count(code, "\\bpublic\\b"), 1 + 1 + 1 + FACE.split(" ").length);
        Check.due("static blocks", count(code, "\\bstatic\\s*\\{"), 0);
    }

    private static int count(String code, String what) {
        Matcher m = Pattern.compile(what).matcher(code);
        int n = 0;
        while (m.find()) {
            n++;
        }
        return n;
    }

    /** Every call of something that begins with a capital letter is one of these. */
    private static void library(String code) {
        Set<String> may = Set.of("Math.max", "Math.min", "Math.abs", "Integer.bitCount", "System.arraycopy", "Arrays.fill", "Integer.MIN_VALUE");
        Set<String> own = new HashSet<>(List.of("TopSays"));
        for (Class<?> c : TopSays.class.getDeclaredClasses()) {
            own.add(c.getSimpleName());
        }
        Matcher m = Pattern.compile("\\b([A-Z][a-z]\\w*)\\.(\\w+)").matcher(code);
        while (m.find()) {
            Check.holds(m.group() + " is one of the library's", may.contains(m.group()) || own.contains(m.group(1)));
        }
        Matcher i = Pattern.compile("import ([\\w.]+)").matcher(code);
        while (i.find()) {
            Check.holds("import " + i.group(1), i.group(1).equals("java.util.Arrays"));
        }
    }

    private static void lengths(String source) {
        String[] lines = source.split("\n");
        for (int indent = 4; indent <= 8; indent += 4) {
            String open = "^ {" + indent + "}[a-zA-Z][^;=]*\\) \\{$";
            String close = " ".repeat(indent) + "}";
            int from = -1;
            for (int i = 0; i < lines.length; i++) {
                if (lines[i].matches(open)) {
                    from = i;
                } else if (from >= 0 && lines[i].equals(close)) {
                    Check.holds("short enough: " + lines[from].trim(), i - from + 1 <= 60);
                    from = -1;
                }
            }
        }
        for (String line : lines) {
            Check.holds("no line beyond 130: " + line, line.length() <= 130);
        }
    }
}
