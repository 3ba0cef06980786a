import com.sun.source.tree.AssertTree;
import com.sun.source.tree.BinaryTree;
import com.sun.source.tree.ClassTree;
import com.sun.source.tree.CompilationUnitTree;
import com.sun.source.tree.DoWhileLoopTree;
import com.sun.source.tree.ForLoopTree;
import com.sun.source.tree.ImportTree;
import com.sun.source.tree.LambdaExpressionTree;
import com.sun.source.tree.MemberReferenceTree;
import com.sun.source.tree.MethodInvocationTree;
import com.sun.source.tree.MethodTree;
import com.sun.source.tree.NewArrayTree;
import com.sun.source.tree.NewClassTree;
import com.sun.source.tree.PackageTree;
import com.sun.source.tree.SynchronizedTree;
import com.sun.source.tree.ThrowTree;
import com.sun.source.tree.Tree;
import com.sun.source.tree.TryTree;
import com.sun.source.tree.VariableTree;
import com.sun.source.tree.WhileLoopTree;
import com.sun.source.util.TreePath;
import com.sun.source.util.TreePathScanner;
import com.sun.source.util.Trees;
import java.util.ArrayList;
import java.util.HashMap;
import java.util.HashSet;
import java.util.List;
import java.util.Map;
import java.util.Set;
import javax.lang.model.element.Element;
import javax.lang.model.element.ExecutableElement;
import javax.lang.model.element.Modifier;
import javax.lang.model.type.TypeKind;
import javax.lang.model.type.TypeMirror;

/** The rules of LANGUAGE.md by their numbers, stricter where the program needs no more. */
final class LanguageRules extends TreePathScanner<Void, Void> {
    private static final Set<String> NUMBERS = Set.of("int", "long", "short", "byte", "char", "boolean");
    private static final Set<String> LIBRARY = Set.of("Arrays.fill", "Arrays.copyOf", "Arrays.copyOfRange",
            "System.arraycopy", "Integer.bitCount", "Integer.compare", "Integer.max", "Integer.min", "Math.max",
            "Math.min", "Math.abs", "Math.floorDiv", "Math.floorMod");
    private static final String OWN = "OddPartners";

    private final Trees trees;
    private final CompilationUnitTree unit;
    private final Map<ExecutableElement, Set<ExecutableElement>> calls = new HashMap<>();
    private final List<ClassTree> classes = new ArrayList<>();
    private ExecutableElement method;
    private int wrong = 0;
    private int deepest = 0;

    LanguageRules(Trees trees, CompilationUnitTree unit) {
        this.trees = trees;
        this.unit = unit;
    }

    int wrong() {
        return wrong;
    }

    String summary() {
        return calls.size() + " methods, " + classes.size() + " classes, calls " + deepest + " deep: "
                + (wrong == 0 ? "no fault against LANGUAGE.md seen" : wrong + " faults");
    }

    void due(boolean good, int rule, String what, Tree where) {
        if (!good) {
            wrong++;
            long at = trees.getSourcePositions().getStartPosition(unit, where);
            System.out.println("rule " + rule + ", line " + unit.getLineMap().getLineNumber(Math.max(at, 0)) + ": " + what);
        }
    }

    void look() {
        scan(unit, null);
        due(classes.size() <= 12, 11, "twelve classes at most", unit);
        calls.keySet().forEach(this::noRingOfCalls);
        for (ExecutableElement m : calls.keySet()) {
            deepest = Math.max(deepest, depth(m, 0));
        }
        due(deepest <= 8, 11, "calls go " + deepest + " deep", unit);
        due(calls.size() > 100, 0, "only " + calls.size() + " methods were seen", unit);
    }

    /** A method may call itself, if it is private and static; no others call one another in a ring. */
    private void noRingOfCalls(ExecutableElement m) {
        Set<ExecutableElement> reached = new HashSet<>();
        List<ExecutableElement> open = new ArrayList<>();
        for (ExecutableElement next : calls.get(m)) {
            if (!next.equals(m)) {
                open.add(next);
            }
        }
        while (!open.isEmpty()) {
            ExecutableElement next = open.remove(open.size() - 1);
            if (reached.add(next)) {
                open.addAll(calls.getOrDefault(next, Set.of()));
            }
        }
        due(!reached.contains(m), 8, m + " comes to itself by others", trees.getTree(m));
        boolean callsItself = calls.get(m).contains(m);
        boolean isPrivateStatic = m.getModifiers().containsAll(Set.of(Modifier.PRIVATE, Modifier.STATIC));
        due(!callsItself || isPrivateStatic, 8, m + " calls itself and isn't private and static", trees.getTree(m));
    }

    private int depth(ExecutableElement m, int above) {
        if (above > 20) {
            return above;
        }
        int most = 0;
        for (ExecutableElement next : calls.getOrDefault(m, Set.of())) {
            most = Math.max(most, next.equals(m) ? 0 : depth(next, above + 1));
        }
        return most + 1;
    }

    private Element element(Tree tree) {
        return trees.getElement(TreePath.getPath(unit, tree));
    }

    private TypeMirror type(Tree tree) {
        return trees.getTypeMirror(TreePath.getPath(unit, tree));
    }

    private static boolean isOwn(Element element) {
        return element != null && element.toString().startsWith(OWN);
    }

    @Override
    public Void visitPackage(PackageTree tree, Void v) {
        due(false, 0, "a package line", tree);
        return super.visitPackage(tree, v);
    }

    @Override
    public Void visitImport(ImportTree tree, Void v) {
        due(tree.toString().trim().equals("import java.util.Arrays;"), 4, tree.toString().trim(), tree);
        return null;
    }

    @Override
    public Void visitClass(ClassTree tree, Void v) {
        classes.add(tree);
        boolean isFace = getCurrentPath().getParentPath().getLeaf() instanceof CompilationUnitTree;
        boolean isInside = getCurrentPath().getParentPath().getLeaf() instanceof ClassTree;
        Set<Modifier> modifiers = tree.getModifiers().getFlags();
        due(isFace || isInside, 2, "a local or anonymous class", tree);
        due(isFace || modifiers.contains(Modifier.STATIC), 2, "an inner class that isn't static", tree);
        due(isFace || !modifiers.contains(Modifier.PUBLIC) && !modifiers.contains(Modifier.PROTECTED), 1,
                "a class inside that is open", tree);
        long fields = tree.getMembers().stream()
                .filter(m -> m instanceof VariableTree f && !f.getModifiers().getFlags().contains(Modifier.STATIC)).count();
        due(fields <= 20, 11, fields + " fields", tree);
        return super.visitClass(tree, v);
    }

    @Override
    public Void visitMethod(MethodTree tree, Void v) {
        ExecutableElement before = method;
        method = (ExecutableElement) element(tree);
        calls.putIfAbsent(method, new HashSet<>());
        due(tree.getParameters().size() <= 7, 11, method + " has too many parameters", tree);
        due(tree.getThrows().isEmpty(), 6, method + " throws", tree);
        long from = unit.getLineMap().getLineNumber(trees.getSourcePositions().getStartPosition(unit, tree));
        long to = unit.getLineMap().getLineNumber(trees.getSourcePositions().getEndPosition(unit, tree));
        due(to - from < 60, 11, method + " has " + (to - from + 1) + " lines", tree);
        due(!Set.of("equals", "hashCode", "toString").contains(tree.getName().toString()), 6, method + "", tree);
        typeIsTold(method.getReturnType(), tree);
        super.visitMethod(tree, v);
        method = before;
        return null;
    }

    @Override
    public Void visitVariable(VariableTree tree, Void v) {
        TypeMirror type = type(tree);
        typeIsTold(type, tree);
        Set<Modifier> modifiers = tree.getModifiers().getFlags();
        if (modifiers.contains(Modifier.STATIC)) {
            due(modifiers.contains(Modifier.FINAL) && NUMBERS.contains(type + ""), 5, tree.getName() + "", tree);
        }
        return super.visitVariable(tree, v);
    }

    /** Numbers, arrays of them or of the program's classes in one dimension, and those classes themselves. */
    private void typeIsTold(TypeMirror type, Tree where) {
        String name = type.toString().replaceFirst("\\[\\]$", "");
        boolean good = type.getKind() == TypeKind.VOID || NUMBERS.contains(name) || name.startsWith(OWN);
        due(good, 3, "of type " + type, where);
    }

    @Override
    public Void visitMethodInvocation(MethodInvocationTree tree, Void v) {
        ExecutableElement called = (ExecutableElement) element(tree.getMethodSelect());
        Element owner = called.getEnclosingElement();
        if (isOwn(owner)) {
            if (method != null) {
                calls.get(method).add(called);
            }
        } else if (!called.getSimpleName().contentEquals("<init>")) {
            String name = owner.getSimpleName() + "." + called.getSimpleName();
            due(LIBRARY.contains(name), 4, name, tree);
        }
        return super.visitMethodInvocation(tree, v);
    }

    @Override
    public Void visitNewClass(NewClassTree tree, Void v) {
        due(tree.getClassBody() == null, 2, "an anonymous class", tree);
        due(isOwn(element(tree.getIdentifier())), 4, tree + "", tree);
        dueInConstructor(tree);
        return super.visitNewClass(tree, v);
    }

    @Override
    public Void visitNewArray(NewArrayTree tree, Void v) {
        dueInConstructor(tree);
        return super.visitNewArray(tree, v);
    }

    /** The rule asks for less; the program makes all its objects where it is made itself. */
    private void dueInConstructor(Tree tree) {
        due(method == null || method.getSimpleName().contentEquals("<init>"), 12, "made in a call: " + tree, tree);
    }

    @Override
    public Void visitBinary(BinaryTree tree, Void v) {
        mayStandBetween(tree.getLeftOperand());
        mayStandBetween(tree.getRightOperand());
        return super.visitBinary(tree, v);
    }

    /** Numbers, and for == and != the program's own objects and null; no texts. */
    private void mayStandBetween(Tree operand) {
        TypeMirror type = type(operand);
        boolean good = type.getKind().isPrimitive() || type.getKind() == TypeKind.NULL
                || type.toString().startsWith(OWN);
        due(good, 6, "between " + type + ": " + operand, operand);
    }

    @Override
    public Void visitWhileLoop(WhileLoopTree tree, Void v) {
        due(tree.getCondition().toString().contains("<"), 9, "no counter is seen in " + tree.getCondition(), tree);
        return super.visitWhileLoop(tree, v);
    }

    @Override
    public Void visitDoWhileLoop(DoWhileLoopTree tree, Void v) {
        due(tree.getCondition().toString().contains("<"), 9, "no counter is seen in " + tree.getCondition(), tree);
        return super.visitDoWhileLoop(tree, v);
    }

    @Override
    public Void visitForLoop(ForLoopTree tree, Void v) {
        boolean counts = tree.getCondition() != null && tree.getCondition().toString().matches(".*[<>].*")
                && !tree.getUpdate().isEmpty();
        due(counts, 9, "no counter is seen in " + tree.getCondition(), tree);
        return super.visitForLoop(tree, v);
    }

    @Override
    public Void visitThrow(ThrowTree tree, Void v) {
        due(false, 6, tree + "", tree);
        return super.visitThrow(tree, v);
    }

    @Override
    public Void visitTry(TryTree tree, Void v) {
        due(false, 6, "a try", tree);
        return super.visitTry(tree, v);
    }

    @Override
    public Void visitSynchronized(SynchronizedTree tree, Void v) {
        due(false, 6, "a synchronized", tree);
        return super.visitSynchronized(tree, v);
    }

    @Override
    public Void visitAssert(AssertTree tree, Void v) {
        due(false, 6, tree + "", tree);
        return super.visitAssert(tree, v);
    }

    @Override
    public Void visitLambdaExpression(LambdaExpressionTree tree, Void v) {
        due(false, 2, tree + "", tree);
        return super.visitLambdaExpression(tree, v);
    }

    @Override
    public Void visitMemberReference(MemberReferenceTree tree, Void v) {
        due(false, 2, tree + "", tree);
        return super.visitMemberReference(tree, v);
    }
}
