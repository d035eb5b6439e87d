import com.sun.source.tree.CompilationUnitTree;
import com.sun.source.util.JavacTask;
import com.sun.source.util.Trees;
import java.io.IOException;
import java.nio.file.Path;
import java.util.List;
import javax.tools.JavaCompiler;
import javax.tools.StandardJavaFileManager;
import javax.tools.ToolProvider;

/**
 * The rules of LANGUAGE.md that can be seen from the source, as javac reads it. Where a rule says "some", there is room
 * above its number. What can't be seen so (rule 7's looks ahead of each use, rule 9's ends of loops, rule 12's counts) is
 * not tested here.
 */
public final class LanguageTest {
    static final String SOURCE = "src/main/java/TopSays.java";

    public static void main(String[] args) throws IOException {
        JavaCompiler compiler = ToolProvider.getSystemJavaCompiler();
        Check.holds("there is a compiler", compiler != null);
        try (StandardJavaFileManager files = compiler.getStandardFileManager(null, null, null)) {
            List<String> options = List.of("-proc:none", "-Xlint:none");
            JavacTask task = (JavacTask) compiler.getTask(null, files, null, options, null, files.getJavaFileObjects(Path.of(SOURCE)));
            CompilationUnitTree unit = task.parse().iterator().next();
            task.analyze();
            Trees trees = Trees.instance(task);
            new LanguageShape(unit, trees).look();
            new LanguageWords(unit, trees).look();
            new LanguageCalls(unit, trees).look();
        }
        Check.finish("LanguageTest");
    }
}
