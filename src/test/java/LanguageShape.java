import com.sun.source.tree.AssignmentTree;
import com.sun.source.tree.BlockTree;
import com.sun.source.tree.ClassTree;
import com.sun.source.tree.CompilationUnitTree;
import com.sun.source.tree.ImportTree;
import com.sun.source.tree.MethodTree;
import com.sun.source.tree.NewArrayTree;
import com.sun.source.tree.Tree;
import com.sun.source.tree.VariableTree;
import com.sun.source.util.TreePath;
import com.sun.source.util.TreePathScanner;
import com.sun.source.util.Trees;
import java.util.List;
import java.util.Map;
import java.util.Set;
import java.util.TreeMap;
import javax.lang.model.element.Element;
import javax.lang.model.element.Modifier;
import javax.lang.model.element.TypeElement;
import javax.lang.model.type.ArrayType;
import javax.lang.model.type.DeclaredType;
import javax.lang.model.type.TypeKind;
import javax.lang.model.type.TypeMirror;

/** Rules 1 to 3, 5, 11: the face, classes, types, fields, sizes. */
final class LanguageShape extends TreePathScanner<Void, Void> {
    /** "Some twelve" classes, "some twenty" fields, "some sixty" lines: with room above. */
    private static final int CLASSES = 15;
    private static final int FIELDS = 25;
    private static final int LINES = 75;
    private static final int PARAMETERS = 7;

    private static final Set<String> IMPORTS = Set.of("java.util.ArrayList", "java.util.List", "java.util.Arrays", "java.util.Iterator");
    private static final Set<String> HOLDERS = Set.of("java.util.ArrayList", "java.util.List", "java.util.Iterator",
            "java.lang.Iterable", "java.lang.Comparable");

    private final CompilationUnitTree unit;
    private final Trees trees;
    private final Map<String, Integer> face = Face.methods();
    private final Map<String, Integer> has = new TreeMap<>();
    private int classes;

    LanguageShape(CompilationUnitTree unit, Trees trees) {
        this.unit = unit;
        this.trees = trees;
    }

    void look() {
        Check.holds("no package line", unit.getPackageName() == null);
        Check.due("classes beside one another in the file", unit.getTypeDecls().size(), 1);
        for (ImportTree line : unit.getImports()) {
            String name = line.getQualifiedIdentifier().toString();
            Check.holds("import " + name, !line.isStatic() && IMPORTS.contains(name));
        }
        scan(unit, null);
        Check.holds("the face is " + face + ", not " + has, has.equals(new TreeMap<>(face)));
        Check.holds("some twelve classes, not " + classes, classes <= CLASSES);
    }

    private boolean isOutermost(ClassTree tree) {
        return unit.getTypeDecls().contains(tree);
    }

    @Override
    public Void visitClass(ClassTree tree, Void none) {
        classes++;
        Set<Modifier> signs = tree.getModifiers().getFlags();
        Tree around = getCurrentPath().getParentPath().getLeaf();
        if (isOutermost(tree)) {
            Check.holds("the class is public and final", signs.contains(Modifier.PUBLIC) && signs.contains(Modifier.FINAL));
            Check.holds("its name", tree.getSimpleName().contentEquals("TopSays"));
        } else {
            String name = tree.getSimpleName().toString();
            Check.holds("class " + name + " stands in a class", around instanceof ClassTree);
            Check.holds("class " + name + " is private or package-visible",
                    !signs.contains(Modifier.PUBLIC) && !signs.contains(Modifier.PROTECTED));
            Check.holds("class " + name + " is static", tree.getKind() != Tree.Kind.CLASS || signs.contains(Modifier.STATIC));
        }
        fields(tree);
        return super.visitClass(tree, none);
    }

    private void fields(ClassTree tree) {
        int fields = 0;
        for (Tree member : tree.getMembers()) {
            if (member instanceof VariableTree && !((VariableTree) member).getModifiers().getFlags().contains(Modifier.STATIC)) {
                fields++;
            }
            boolean block = member instanceof BlockTree;
            Check.holds("no static block", !block || !((BlockTree) member).isStatic());
        }
        Check.holds("some twenty fields in " + tree.getSimpleName() + ", not " + fields, fields <= FIELDS);
    }

    @Override
    public Void visitMethod(MethodTree tree, Void none) {
        ClassTree in = (ClassTree) getCurrentPath().getParentPath().getLeaf();
        Set<Modifier> signs = tree.getModifiers().getFlags();
        String name = tree.getName().toString();
        if (signs.contains(Modifier.PRIVATE)) {
            Check.holds("no private method " + name, !face.containsKey(name));
        }
        if (isOutermost(in) && !signs.contains(Modifier.PRIVATE)) {
            ofTheFace(tree, name, signs);
        }
        Check.holds(name + " takes seven at most", tree.getParameters().size() <= PARAMETERS);
        Check.holds(name + " throws nothing", tree.getThrows().isEmpty());
        Check.holds(name + " is not synchronized", !signs.contains(Modifier.SYNCHRONIZED));
        Check.holds(name + " is not native", !signs.contains(Modifier.NATIVE));
        int lines = lines(tree);
        Check.holds(name + " has some sixty lines, not " + lines, lines <= LINES);
        if (tree.getReturnType() != null) {
            type("what " + name + " answers", new TreePath(getCurrentPath(), tree.getReturnType()));
        }
        return super.visitMethod(tree, none);
    }

    private void ofTheFace(MethodTree tree, String name, Set<Modifier> signs) {
        Check.holds(name + " is public", signs.contains(Modifier.PUBLIC));
        Check.holds(name + " is no static one", !signs.contains(Modifier.STATIC));
        for (VariableTree parameter : tree.getParameters()) {
            Check.holds(name + " takes ints", parameter.getType().toString().equals("int"));
        }
        if (tree.getReturnType() == null) {
            Check.due("what the constructor takes", tree.getParameters().size(), 0);
        } else {
            Check.holds(name + " answers an int", tree.getReturnType().toString().equals("int"));
            Check.holds(name + " is there once", has.put(name, tree.getParameters().size()) == null);
        }
    }

    private int lines(Tree tree) {
        long from = trees.getSourcePositions().getStartPosition(unit, tree);
        long till = trees.getSourcePositions().getEndPosition(unit, tree);
        return from < 0 || till < 0 ? 0 : (int) (unit.getLineMap().getLineNumber(till) - unit.getLineMap().getLineNumber(from)) + 1;
    }

    @Override
    public Void visitVariable(VariableTree tree, Void none) {
        Tree around = getCurrentPath().getParentPath().getLeaf();
        Set<Modifier> signs = tree.getModifiers().getFlags();
        String name = tree.getName().toString();
        boolean constantOfAnEnum = around instanceof ClassTree && ((ClassTree) around).getKind() == Tree.Kind.ENUM
                && signs.contains(Modifier.STATIC);
        if (around instanceof ClassTree && !constantOfAnEnum) {
            if (isOutermost((ClassTree) around)) {
                Check.holds(name + " is private, but NONE", signs.contains(Modifier.PRIVATE) || name.equals("NONE"));
            }
            if (signs.contains(Modifier.STATIC)) {
                staticField(tree, name, signs);
            }
        }
        if (tree.getType() != null && !constantOfAnEnum) {
            type(name, new TreePath(getCurrentPath(), tree.getType()));
        }
        return super.visitVariable(tree, none);
    }

    private void staticField(VariableTree tree, String name, Set<Modifier> signs) {
        Check.holds(name + " is final", signs.contains(Modifier.FINAL));
        String type = tree.getType().toString();
        boolean constant = Set.of("int", "long", "boolean", "char", "String").contains(type);
        boolean row = Set.of("int[]", "long[]", "char[]", "byte[]").contains(type) && tree.getInitializer() instanceof NewArrayTree
                && ((NewArrayTree) tree.getInitializer()).getInitializers() != null;
        Check.holds(name + " is a constant, or an array written out", constant && tree.getInitializer() != null || row);
    }

    @Override
    public Void visitAssignment(AssignmentTree tree, Void none) {
        Tree left = tree.getVariable();
        if (left instanceof com.sun.source.tree.ArrayAccessTree) {
            Tree row = ((com.sun.source.tree.ArrayAccessTree) left).getExpression();
            Element element = trees.getElement(new TreePath(new TreePath(getCurrentPath(), left), row));
            Check.holds("no static array is changed: " + tree, element == null || !element.getModifiers().contains(Modifier.STATIC));
        }
        return super.visitAssignment(tree, none);
    }

    private void type(String of, TreePath path) {
        TypeMirror type = trees.getTypeMirror(path);
        Check.holds("the type of " + of + ": " + type, type != null && mayBe(type));
    }

    private boolean mayBe(TypeMirror type) {
        if (type.getKind().isPrimitive() || type.getKind() == TypeKind.VOID || type.getKind() == TypeKind.TYPEVAR) {
            return true;
        }
        if (type.getKind() == TypeKind.ARRAY) {
            TypeMirror part = ((ArrayType) type).getComponentType();
            boolean two = part.getKind() == TypeKind.ARRAY && ((ArrayType) part).getComponentType().getKind().isPrimitive()
                    && ((ArrayType) part).getComponentType().getKind() != TypeKind.BOOLEAN;
            return part.getKind().isPrimitive() || isOwn(part) || two;
        }
        String name = type.getKind() == TypeKind.DECLARED ? nameOf(type) : "";
        return isOwn(type) || name.equals("java.lang.String") || name.equals("java.lang.StringBuilder")
                || HOLDERS.contains(name) && holds(((DeclaredType) type).getTypeArguments());
    }

    private boolean holds(List<? extends TypeMirror> parts) {
        boolean good = parts.size() == 1;
        for (TypeMirror part : parts) {
            good = good && (isOwn(part) || part.getKind() == TypeKind.TYPEVAR
                    || part.getKind() == TypeKind.DECLARED && nameOf(part).equals("java.lang.Integer"));
        }
        return good;
    }

    private static String nameOf(TypeMirror type) {
        return ((TypeElement) ((DeclaredType) type).asElement()).getQualifiedName().toString();
    }

    private static boolean isOwn(TypeMirror type) {
        return type.getKind() == TypeKind.DECLARED && (nameOf(type).equals("TopSays") || nameOf(type).startsWith("TopSays."));
    }
}
