import com.sun.source.tree.ClassTree;
import com.sun.source.tree.CompilationUnitTree;
import com.sun.source.tree.IdentifierTree;
import com.sun.source.tree.MemberSelectTree;
import com.sun.source.tree.MethodInvocationTree;
import com.sun.source.tree.MethodTree;
import com.sun.source.tree.NewClassTree;
import com.sun.source.tree.Tree;
import com.sun.source.util.TreePath;
import com.sun.source.util.TreePathScanner;
import com.sun.source.util.Trees;
import java.util.HashMap;
import java.util.HashSet;
import java.util.LinkedHashMap;
import java.util.LinkedHashSet;
import java.util.Map;
import java.util.Set;
import javax.lang.model.element.Element;
import javax.lang.model.element.ExecutableElement;
import javax.lang.model.element.Modifier;

/** Rules 8, 11, 12: which method calls which, how deep calls go, what constructors hand out. */
final class LanguageCalls extends TreePathScanner<Void, Void> {
    private static final int DEEPEST = 8;

    private final CompilationUnitTree unit;
    private final Trees trees;
    private final Map<Element, Set<Element>> calls = new LinkedHashMap<>();
    private final Map<Element, Integer> depths = new HashMap<>();
    private Element in;

    LanguageCalls(CompilationUnitTree unit, Trees trees) {
        this.unit = unit;
        this.trees = trees;
    }

    void look() {
        scan(unit, null);
        for (Element method : calls.keySet()) {
            if (reaches(method, method)) {
                Check.holds(method + " calls itself again: it is private", method.getModifiers().contains(Modifier.PRIVATE));
            }
            if (method.getModifiers().contains(Modifier.PUBLIC)) {
                int deep = depth(method);
                Check.holds(method + " goes eight calls deep at most, not " + deep, deep <= DEEPEST);
            }
        }
    }

    @Override
    public Void visitMethod(MethodTree tree, Void none) {
        Element outer = in;
        in = trees.getElement(getCurrentPath());
        calls.putIfAbsent(in, new LinkedHashSet<>());
        super.visitMethod(tree, none);
        in = outer;
        return null;
    }

    @Override
    public Void visitMethodInvocation(MethodInvocationTree tree, Void none) {
        call(trees.getElement(new TreePath(getCurrentPath(), tree.getMethodSelect())));
        return super.visitMethodInvocation(tree, none);
    }

    @Override
    public Void visitNewClass(NewClassTree tree, Void none) {
        call(trees.getElement(getCurrentPath()));
        return super.visitNewClass(tree, none);
    }

    private void call(Element called) {
        if (in != null && called instanceof ExecutableElement) {
            calls.get(in).add(called);
        }
    }

    /** A constructor may use "this" only to reach a field. */
    @Override
    public Void visitIdentifier(IdentifierTree tree, Void none) {
        if (tree.getName().contentEquals("this") && in != null && in.getSimpleName().contentEquals("<init>")) {
            Tree around = getCurrentPath().getParentPath().getLeaf();
            Check.holds("a constructor hands out nothing of its object", around instanceof MemberSelectTree);
        }
        return super.visitIdentifier(tree, none);
    }

    @Override
    public Void visitClass(ClassTree tree, Void none) {
        Element outer = in;
        in = null;
        super.visitClass(tree, none);
        in = outer;
        return null;
    }

    private Set<Element> calledBy(Element method) {
        return calls.getOrDefault(method, Set.of());
    }

    private boolean reaches(Element from, Element goal) {
        Set<Element> seen = new HashSet<>();
        Set<Element> open = new LinkedHashSet<>(calledBy(from));
        while (!open.isEmpty()) {
            Element next = open.iterator().next();
            open.remove(next);
            if (next.equals(goal)) {
                return true;
            }
            if (seen.add(next)) {
                open.addAll(calledBy(next));
            }
        }
        return false;
    }

    /** How deep calls go from a method on: those that call one another again are one. The library's are none. */
    private int depth(Element method) {
        if (!calls.containsKey(method)) {
            return 0;
        }
        Integer known = depths.get(method);
        if (known != null) {
            return known;
        }
        Set<Element> circle = new LinkedHashSet<>();
        circle.add(method);
        for (Element other : calls.keySet()) {
            if (reaches(method, other) && reaches(other, method)) {
                circle.add(other);
            }
        }
        int deepest = 0;
        for (Element one : circle) {
            for (Element next : calledBy(one)) {
                deepest = Math.max(deepest, circle.contains(next) ? 0 : depth(next));
            }
        }
        depths.put(method, deepest + 1);
        return deepest + 1;
    }
}
