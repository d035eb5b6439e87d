import com.sun.source.tree.AssertTree;
import com.sun.source.tree.BinaryTree;
import com.sun.source.tree.CompilationUnitTree;
import com.sun.source.tree.CompoundAssignmentTree;
import com.sun.source.tree.DoWhileLoopTree;
import com.sun.source.tree.ForLoopTree;
import com.sun.source.tree.LambdaExpressionTree;
import com.sun.source.tree.LiteralTree;
import com.sun.source.tree.MemberReferenceTree;
import com.sun.source.tree.MemberSelectTree;
import com.sun.source.tree.MethodInvocationTree;
import com.sun.source.tree.NewClassTree;
import com.sun.source.tree.SynchronizedTree;
import com.sun.source.tree.ThrowTree;
import com.sun.source.tree.Tree;
import com.sun.source.tree.TryTree;
import com.sun.source.tree.WhileLoopTree;
import com.sun.source.util.TreePath;
import com.sun.source.util.TreePathScanner;
import com.sun.source.util.Trees;
import java.util.Set;
import javax.lang.model.element.Element;
import javax.lang.model.element.ElementKind;
import javax.lang.model.element.ExecutableElement;
import javax.lang.model.element.Modifier;
import javax.lang.model.element.TypeElement;
import javax.lang.model.element.VariableElement;
import javax.lang.model.type.ArrayType;
import javax.lang.model.type.TypeKind;
import javax.lang.model.type.TypeMirror;

/** Rules 2, 4, 6, 9, 10, 13: what may not be written, and what of the library may. */
final class LanguageWords extends TreePathScanner<Void, Void> {
    private static final Set<String> LIBRARY = Set.of(
            "java.lang.String.length()", "java.lang.String.charAt(int)", "java.lang.String.isEmpty()",
            "java.lang.String.equals(java.lang.Object)", "java.lang.String.indexOf(int)", "java.lang.String.substring(int)",
            "java.lang.String.substring(int,int)", "java.lang.String.toCharArray()", "java.lang.String.String(char[])",
            "java.lang.StringBuilder.StringBuilder()", "java.lang.StringBuilder.append(char)",
            "java.lang.StringBuilder.append(java.lang.String)", "java.lang.StringBuilder.append(int)",
            "java.lang.StringBuilder.charAt(int)", "java.lang.AbstractStringBuilder.charAt(int)",
            "java.lang.StringBuilder.setCharAt(int,char)", "java.lang.AbstractStringBuilder.setCharAt(int,char)",
            "java.lang.StringBuilder.setLength(int)", "java.lang.AbstractStringBuilder.setLength(int)",
            "java.lang.StringBuilder.deleteCharAt(int)", "java.lang.StringBuilder.reverse()", "java.lang.StringBuilder.toString()",
            "java.lang.StringBuilder.length()", "java.lang.AbstractStringBuilder.length()",
            "java.util.Iterator.hasNext()", "java.util.Iterator.next()", "java.lang.Iterable.iterator()",
            "java.lang.System.arraycopy(java.lang.Object,int,java.lang.Object,int,int)", "java.lang.Object.Object()", "java.lang.Record.Record()",
            "java.lang.Enum.Enum(java.lang.String,int)");
    private static final Set<String> OF_LISTS = Set.of("add", "get", "set", "remove", "size", "isEmpty", "clear", "of");
    private static final Set<String> OF_ARRAYS = Set.of("copyOf", "copyOfRange", "fill");
    private static final int MOST_OF_A_LIST = 6;

    private final CompilationUnitTree unit;
    private final Trees trees;

    LanguageWords(CompilationUnitTree unit, Trees trees) {
        this.unit = unit;
        this.trees = trees;
    }

    void look() {
        scan(unit, null);
    }

    private void never(String what, Tree tree) {
        Check.holds(what + " in line " + line(tree), false);
    }

    private long line(Tree tree) {
        return unit.getLineMap().getLineNumber(Math.max(0, trees.getSourcePositions().getStartPosition(unit, tree)));
    }

    @Override
    public Void visitThrow(ThrowTree tree, Void none) {
        never("no throw", tree);
        return super.visitThrow(tree, none);
    }

    @Override
    public Void visitTry(TryTree tree, Void none) {
        never("no try", tree);
        return super.visitTry(tree, none);
    }

    @Override
    public Void visitSynchronized(SynchronizedTree tree, Void none) {
        never("no synchronized", tree);
        return super.visitSynchronized(tree, none);
    }

    @Override
    public Void visitAssert(AssertTree tree, Void none) {
        never("no assert", tree);
        return super.visitAssert(tree, none);
    }

    @Override
    public Void visitLambdaExpression(LambdaExpressionTree tree, Void none) {
        never("no lambda", tree);
        return super.visitLambdaExpression(tree, none);
    }

    @Override
    public Void visitMemberReference(MemberReferenceTree tree, Void none) {
        never("no method reference", tree);
        return super.visitMemberReference(tree, none);
    }

    @Override
    public Void visitForLoop(ForLoopTree tree, Void none) {
        if (tree.getCondition() == null || isTrue(tree.getCondition())) {
            never("no loop without an end", tree);
        }
        return super.visitForLoop(tree, none);
    }

    @Override
    public Void visitWhileLoop(WhileLoopTree tree, Void none) {
        if (isTrue(tree.getCondition())) {
            never("no loop without an end", tree);
        }
        return super.visitWhileLoop(tree, none);
    }

    @Override
    public Void visitDoWhileLoop(DoWhileLoopTree tree, Void none) {
        if (isTrue(tree.getCondition())) {
            never("no loop without an end", tree);
        }
        return super.visitDoWhileLoop(tree, none);
    }

    private static boolean isTrue(Tree condition) {
        return condition.toString().replaceAll("[() ]", "").equals("true");
    }

    @Override
    public Void visitLiteral(LiteralTree tree, Void none) {
        Object value = tree.getValue();
        if (value instanceof String || value instanceof Character) {
            for (char sign : value.toString().toCharArray()) {
                Check.holds("signs 1 to 127 alone, not " + (int) sign, sign >= 1 && sign <= 127);
            }
        }
        return super.visitLiteral(tree, none);
    }

    @Override
    public Void visitBinary(BinaryTree tree, Void none) {
        String left = typeOf(tree.getLeftOperand());
        String right = typeOf(tree.getRightOperand());
        if (tree.getKind() == Tree.Kind.PLUS && (left.equals("java.lang.String") || right.equals("java.lang.String"))) {
            never("no texts joined by +", tree);
        }
        if (tree.getKind() == Tree.Kind.EQUAL_TO || tree.getKind() == Tree.Kind.NOT_EQUAL_TO) {
            boolean alike = left.equals(right) && (left.equals("java.lang.String") || left.equals("java.lang.Integer"));
            Check.holds("no == between Strings or Integers: " + tree, !alike);
        }
        return super.visitBinary(tree, none);
    }

    @Override
    public Void visitCompoundAssignment(CompoundAssignmentTree tree, Void none) {
        Check.holds("no texts joined by +=", !typeOf(tree.getVariable()).equals("java.lang.String"));
        return super.visitCompoundAssignment(tree, none);
    }

    private String typeOf(Tree tree) {
        TypeMirror type = trees.getTypeMirror(new TreePath(getCurrentPath(), tree));
        return type == null ? "" : type.toString();
    }

    @Override
    public Void visitNewClass(NewClassTree tree, Void none) {
        Check.holds("no anonymous class", tree.getClassBody() == null);
        Element element = trees.getElement(getCurrentPath());
        if (element instanceof ExecutableElement) {
            library((ExecutableElement) element, tree);
        }
        return super.visitNewClass(tree, none);
    }

    @Override
    public Void visitMethodInvocation(MethodInvocationTree tree, Void none) {
        Element element = trees.getElement(new TreePath(getCurrentPath(), tree.getMethodSelect()));
        if (element instanceof ExecutableElement) {
            library((ExecutableElement) element, tree);
        }
        return super.visitMethodInvocation(tree, none);
    }

    @Override
    public Void visitMemberSelect(MemberSelectTree tree, Void none) {
        Element element = trees.getElement(getCurrentPath());
        if (element instanceof VariableElement && element.getKind() == ElementKind.FIELD) {
            boolean ofArray = tree.getIdentifier().contentEquals("length");
            Check.holds("no field of the library: " + tree, ofArray || isOwn(element));
        }
        return super.visitMemberSelect(tree, none);
    }

    private static boolean isOwn(Element element) {
        Element at = element;
        while (at != null && at.getEnclosingElement() != null && at.getEnclosingElement().getKind() != ElementKind.PACKAGE) {
            at = at.getEnclosingElement();
        }
        return at != null && at.getSimpleName().contentEquals("TopSays");
    }

    private void library(ExecutableElement called, Tree tree) {
        if (!isOwn(called)) {
            String owner = ((TypeElement) called.getEnclosingElement()).getQualifiedName().toString();
            boolean made = called.getKind() == ElementKind.CONSTRUCTOR;
            String name = made ? owner.substring(owner.lastIndexOf('.') + 1) : called.getSimpleName().toString();
            Check.holds(owner + "." + name + " in line " + line(tree) + " is one of the library's that may be called",
                    LIBRARY.contains(owner + "." + signature(name, called)) || isOfLists(owner, name, made, called)
                            || isOfNumbers(owner, name, called) || isOfArrays(owner, name, called));
        }
    }

    private static String signature(String name, ExecutableElement called) {
        StringBuilder all = new StringBuilder(name).append('(');
        for (VariableElement parameter : called.getParameters()) {
            all.append(all.charAt(all.length() - 1) == '(' ? "" : ",").append(parameter.asType());
        }
        return all.append(')').toString();
    }

    private static boolean isOfLists(String owner, String name, boolean made, ExecutableElement called) {
        boolean list = Set.of("java.util.ArrayList", "java.util.List", "java.util.Collection", "java.util.AbstractList").contains(owner);
        boolean few = !name.equals("of") || called.getParameters().size() <= MOST_OF_A_LIST && !called.isVarArgs();
        boolean byPlace = !name.equals("remove") || called.getParameters().get(0).asType().getKind() == TypeKind.INT;
        return list && (made && called.getParameters().isEmpty() || OF_LISTS.contains(name) && few && byPlace);
    }

    private static boolean isOfNumbers(String owner, String name, ExecutableElement called) {
        boolean numbers = Set.of("java.lang.Integer", "java.lang.Long", "java.lang.Math").contains(owner);
        boolean plain = called.getModifiers().contains(Modifier.STATIC) && !name.endsWith("Exact");
        for (VariableElement parameter : called.getParameters()) {
            TypeKind kind = parameter.asType().getKind();
            plain = plain && (kind == TypeKind.INT || kind == TypeKind.LONG);
        }
        return numbers && plain;
    }

    private static boolean isOfArrays(String owner, String name, ExecutableElement called) {
        boolean numbers = false;
        if (!called.getParameters().isEmpty() && called.getParameters().get(0).asType() instanceof ArrayType) {
            TypeMirror part = ((ArrayType) called.getParameters().get(0).asType()).getComponentType();
            numbers = part.getKind().isPrimitive() && part.getKind() != TypeKind.BOOLEAN;
        }
        return owner.equals("java.util.Arrays") && OF_ARRAYS.contains(name) && numbers || owner.equals("Array") && name.equals("clone");
    }
}
