import com.sun.source.tree.AssertTree;
import com.sun.source.tree.BinaryTree;
import com.sun.source.tree.BlockTree;
import com.sun.source.tree.ClassTree;
import com.sun.source.tree.CompilationUnitTree;
import com.sun.source.tree.CompoundAssignmentTree;
import com.sun.source.tree.DoWhileLoopTree;
import com.sun.source.tree.ExpressionTree;
import com.sun.source.tree.ForLoopTree;
import com.sun.source.tree.IfTree;
import com.sun.source.tree.InstanceOfTree;
import com.sun.source.tree.LambdaExpressionTree;
import com.sun.source.tree.LineMap;
import com.sun.source.tree.MemberReferenceTree;
import com.sun.source.tree.MethodInvocationTree;
import com.sun.source.tree.MethodTree;
import com.sun.source.tree.NewArrayTree;
import com.sun.source.tree.NewClassTree;
import com.sun.source.tree.SwitchExpressionTree;
import com.sun.source.tree.SynchronizedTree;
import com.sun.source.tree.ThrowTree;
import com.sun.source.tree.Tree;
import com.sun.source.tree.TryTree;
import com.sun.source.tree.TypeCastTree;
import com.sun.source.tree.VariableTree;
import com.sun.source.tree.WhileLoopTree;
import com.sun.source.util.JavacTask;
import com.sun.source.util.SourcePositions;
import com.sun.source.util.TreePath;
import com.sun.source.util.TreePathScanner;
import com.sun.source.util.Trees;
import java.nio.file.Files;
import java.nio.file.Path;
import java.util.ArrayDeque;
import java.util.Deque;
import java.util.HashSet;
import java.util.List;
import java.util.Map;
import java.util.Set;
import java.util.TreeMap;
import java.util.TreeSet;
import javax.lang.model.element.Element;
import javax.lang.model.element.ElementKind;
import javax.lang.model.element.Modifier;
import javax.lang.model.type.ArrayType;
import javax.lang.model.type.TypeKind;
import javax.lang.model.type.TypeMirror;
import javax.tools.ToolProvider;

/**
 * ../shared/LANGUAGE.md, rule by rule, as far as it can be seen from the tree that the compiler makes of the class.
 * It holds the class to less than the rules leave: only what the class needs is in the lists here.
 */
public final class RulesTest extends TreePathScanner<Void, Void> {
    private static final Check CHECK = new Check("RulesTest");
    private static final Set<String> TYPES = Set.of("int", "long", "boolean", "byte", "short", "char", "void",
        "java.lang.String", "java.lang.StringBuilder");
    private static final Set<String> LIBRARY = Set.of("java.lang.Math.max", "java.lang.Math.min", "java.lang.Math.abs",
        "java.lang.Integer.bitCount", "java.lang.Integer.numberOfTrailingZeros", "java.lang.String.charAt",
        "java.lang.String.length", "java.lang.System.arraycopy", "java.util.Arrays.fill");

    private final Trees trees;
    private final CompilationUnitTree unit;
    private final String source;
    private final Deque<String> methods = new ArrayDeque<>();
    private final Map<String, Set<String>> calls = new TreeMap<>();
    private final Set<String> face = new TreeSet<>();
    private int classes = 0;

    private RulesTest(Trees trees, CompilationUnitTree unit, String source) {
        this.trees = trees;
        this.unit = unit;
        this.source = source;
    }

    public static void main(String[] args) throws Exception {
        String source = Files.readString(Path.of("src/main/java/HedgehogLots.java"));
        JavacTask task = (JavacTask) ToolProvider.getSystemJavaCompiler()
            .getTask(null, null, null, List.of("-proc:none"), null, List.of(Compiled.file("HedgehogLots", source)));
        CompilationUnitTree unit = task.parse().iterator().next();
        task.analyze();
        RulesTest rules = new RulesTest(Trees.instance(task), unit, source);
        rules.scan(unit, null);
        CHECK.holds("rule 1: no package", unit.getPackage() == null);
        CHECK.due("rule 1: classes of the file beside others", unit.getTypeDecls().size(), 1);
        CHECK.holds("rule 11: some twelve classes: " + rules.classes, rules.classes <= 12);
        rules.depths();
        CHECK.finish();
    }

    private void holds(String what, boolean is) {
        Tree tree = getCurrentPath().getLeaf();
        SourcePositions positions = trees.getSourcePositions();
        LineMap lines = unit.getLineMap();
        CHECK.holds(what + " (line " + lines.getLineNumber(positions.getStartPosition(unit, tree)) + ")", is);
    }

    private String text(Tree tree) {
        SourcePositions positions = trees.getSourcePositions();
        return source.substring((int) positions.getStartPosition(unit, tree), (int) positions.getEndPosition(unit, tree));
    }

    private TypeMirror type(Tree tree) {
        return trees.getTypeMirror(new TreePath(getCurrentPath(), tree));
    }

    private static boolean isOwn(String name) {
        return name.equals("HedgehogLots") || name.startsWith("HedgehogLots.");
    }

    // ---- rule 2: classes; rule 3: types

    @Override
    public Void visitClass(ClassTree tree, Void p) {
        classes++;
        boolean outer = getCurrentPath().getParentPath().getLeaf() == unit;
        boolean inside = getCurrentPath().getParentPath().getLeaf() instanceof ClassTree;
        holds("rule 2: " + tree.getSimpleName() + " is no local or anonymous class", outer || inside);
        holds("rule 2: " + tree.getSimpleName() + " is static",
            outer || tree.getKind() != Tree.Kind.CLASS || tree.getModifiers().getFlags().contains(Modifier.STATIC));
        int fields = 0;
        for (Tree member : tree.getMembers()) {
            holds("rule 5: no initialiser block in " + tree.getSimpleName(), !(member instanceof BlockTree));
            if (member instanceof VariableTree v && !v.getModifiers().getFlags().contains(Modifier.STATIC)) {
                fields++;
            }
        }
        holds("rule 11: some twenty fields: " + tree.getSimpleName() + " " + fields, fields <= 20);
        return super.visitClass(tree, p);
    }

    @Override
    public Void visitVariable(VariableTree tree, Void p) {
        typeIsAllowed(trees.getTypeMirror(getCurrentPath()), tree.getName().toString());
        if (tree.getModifiers().getFlags().contains(Modifier.STATIC)) {
            holds("rule 5: " + tree.getName() + " is final", tree.getModifiers().getFlags().contains(Modifier.FINAL));
            holds("rule 5: " + tree.getName() + " is a constant", !(trees.getTypeMirror(getCurrentPath()) instanceof ArrayType));
        }
        return super.visitVariable(tree, p);
    }

    private void typeIsAllowed(TypeMirror type, String of) {
        TypeMirror one = type instanceof ArrayType array ? array.getComponentType() : type;
        holds("rule 3: the type of " + of + ": " + type, TYPES.contains(one.toString()) || isOwn(one.toString()));
    }

    // ---- rule 4: the library; rules 8, 11: calls; rule 12: what is made

    @Override
    public Void visitMethod(MethodTree tree, Void p) {
        Element element = trees.getElement(getCurrentPath());
        String name = element.getEnclosingElement() + "." + tree.getName();
        holds("rule 11: no two methods have one name, so that the calls can be told: " + name, !calls.containsKey(name)
            || tree.getReturnType() == null);
        calls.computeIfAbsent(name, key -> new HashSet<>());
        if (tree.getModifiers().getFlags().contains(Modifier.PUBLIC)) {
            face.add(name);
        }
        if (tree.getReturnType() != null) {
            typeIsAllowed(type(tree.getReturnType()), name);
        }
        holds("rule 11: parameters of " + name, tree.getParameters().size() <= 7);
        LineMap lines = unit.getLineMap();
        SourcePositions positions = trees.getSourcePositions();
        long length = lines.getLineNumber(positions.getEndPosition(unit, tree))
            - lines.getLineNumber(positions.getStartPosition(unit, tree)) + 1;
        holds("rule 11: " + name + " is short: " + length + " lines", length <= 60);
        methods.push(name);
        super.visitMethod(tree, p);
        methods.pop();
        return null;
    }

    @Override
    public Void visitMethodInvocation(MethodInvocationTree tree, Void p) {
        Element element = trees.getElement(getCurrentPath());
        String owner = element.getEnclosingElement().toString();
        boolean own = isOwn(owner) || element.getKind() == ElementKind.CONSTRUCTOR;
        String name = owner + "." + element.getSimpleName();
        holds("rule 4: " + name, own || LIBRARY.contains(name));
        if (!methods.isEmpty()) {
            calls.get(methods.peek()).add(name);
        }
        return super.visitMethodInvocation(tree, p);
    }

    @Override
    public Void visitNewClass(NewClassTree tree, Void p) {
        String made = trees.getTypeMirror(getCurrentPath()).toString();
        holds("rule 4: an object of " + made, isOwn(made));
        holds("rule 2: no anonymous class", tree.getClassBody() == null);
        isMadeByConstructor("an object of " + made);
        return super.visitNewClass(tree, p);
    }

    @Override
    public Void visitNewArray(NewArrayTree tree, Void p) {
        isMadeByConstructor("an array");
        return super.visitNewArray(tree, p);
    }

    /** So that calls make nothing, and the room does not hang on them. */
    private void isMadeByConstructor(String what) {
        holds("rule 12: " + what + " is made by a constructor or a field", methods.isEmpty() || methods.peek().endsWith("<init>"));
    }

    /** No method comes to itself again, and calls stand at most eight deep. */
    private void depths() {
        Map<String, Integer> depths = new TreeMap<>();
        for (String method : calls.keySet()) {
            CHECK.holds("rules 8, 11: " + method + " stands at most eight deep", depth(method, new HashSet<>(), depths) <= 8);
        }
        for (String name : calls.keySet()) {
            String simple = name.substring(name.lastIndexOf('.') + 1);
            CHECK.holds("rule 1: no private method has the name of a public one: " + name,
                face.contains(name) || !face.contains("HedgehogLots." + simple) || simple.equals("<init>"));
        }
    }

    private int depth(String method, Set<String> open, Map<String, Integer> depths) {
        if (!calls.containsKey(method)) {
            return 0;
        }
        Integer known = depths.get(method);
        if (known != null) {
            return known;
        }
        if (!open.add(method)) {
            return 1000;
        }
        int deepest = 0;
        for (String called : calls.get(method)) {
            deepest = Math.max(deepest, depth(called, open, depths));
        }
        open.remove(method);
        depths.put(method, deepest + 1);
        return deepest + 1;
    }

    // ---- rules 6, 10: what no line has

    @Override
    public Void visitThrow(ThrowTree tree, Void p) {
        holds("rule 6: no throw", false);
        return super.visitThrow(tree, p);
    }

    @Override
    public Void visitTry(TryTree tree, Void p) {
        holds("rule 6: no try", false);
        return super.visitTry(tree, p);
    }

    @Override
    public Void visitSynchronized(SynchronizedTree tree, Void p) {
        holds("rule 6: no synchronized", false);
        return super.visitSynchronized(tree, p);
    }

    @Override
    public Void visitAssert(AssertTree tree, Void p) {
        holds("rule 6: no assert", false);
        return super.visitAssert(tree, p);
    }

    @Override
    public Void visitSwitchExpression(SwitchExpressionTree tree, Void p) {
        holds("rule 10: no switch that answers", false);
        return super.visitSwitchExpression(tree, p);
    }

    @Override
    public Void visitLambdaExpression(LambdaExpressionTree tree, Void p) {
        holds("rule 2: no lambda", false);
        return super.visitLambdaExpression(tree, p);
    }

    @Override
    public Void visitMemberReference(MemberReferenceTree tree, Void p) {
        holds("rule 2: no method reference", false);
        return super.visitMemberReference(tree, p);
    }

    @Override
    public Void visitInstanceOf(InstanceOfTree tree, Void p) {
        holds("rule 6: the class needs no instanceof", false);
        return super.visitInstanceOf(tree, p);
    }

    @Override
    public Void visitTypeCast(TypeCastTree tree, Void p) {
        holds("rule 6: a cast of numbers alone", type(tree.getType()).getKind().isPrimitive());
        return super.visitTypeCast(tree, p);
    }

    // ---- rules 6, 7, 10: what stands between two sides

    @Override
    public Void visitBinary(BinaryTree tree, Void p) {
        boolean text = isText(tree.getLeftOperand()) || isText(tree.getRightOperand());
        holds("rule 10: texts are not joined or compared by " + text(tree), !text);
        if (tree.getKind() == Tree.Kind.DIVIDE || tree.getKind() == Tree.Kind.REMAINDER) {
            divides(tree.getRightOperand());
        }
        return super.visitBinary(tree, p);
    }

    @Override
    public Void visitCompoundAssignment(CompoundAssignmentTree tree, Void p) {
        boolean divides = tree.getKind() == Tree.Kind.DIVIDE_ASSIGNMENT || tree.getKind() == Tree.Kind.REMAINDER_ASSIGNMENT;
        holds("rules 7, 10: " + text(tree), !divides && !isText(tree.getVariable()));
        return super.visitCompoundAssignment(tree, p);
    }

    private boolean isText(ExpressionTree side) {
        TypeMirror type = type(side);
        return type.getKind() == TypeKind.DECLARED && type.toString().equals("java.lang.String");
    }

    /** A constant, or something that the method compares with 0. */
    private void divides(ExpressionTree divisor) {
        Object constant = divisor.getKind() == Tree.Kind.INT_LITERAL ? text(divisor) : constantOf(divisor);
        boolean tested = false;
        for (TreePath path = getCurrentPath(); path != null; path = path.getParentPath()) {
            if (path.getLeaf() instanceof MethodTree method) {
                String code = text(method);
                tested = code.contains(text(divisor) + " != 0") || code.contains(text(divisor) + " <= 0");
            }
        }
        holds("rule 7: a divisor is looked at: " + text(divisor), constant != null && !constant.toString().equals("0") || tested);
    }

    private Object constantOf(ExpressionTree tree) {
        Element element = trees.getElement(new TreePath(getCurrentPath(), tree));
        return element instanceof javax.lang.model.element.VariableElement v ? v.getConstantValue() : null;
    }

    // ---- rule 9: loops

    @Override
    public Void visitForLoop(ForLoopTree tree, Void p) {
        hasBound(tree.getCondition());
        return super.visitForLoop(tree, p);
    }

    @Override
    public Void visitWhileLoop(WhileLoopTree tree, Void p) {
        hasBound(tree.getCondition());
        return super.visitWhileLoop(tree, p);
    }

    @Override
    public Void visitDoWhileLoop(DoWhileLoopTree tree, Void p) {
        hasBound(tree.getCondition());
        return super.visitDoWhileLoop(tree, p);
    }

    private void hasBound(ExpressionTree condition) {
        holds("rule 9: a counter against a bound", condition != null && text(condition).matches("(?s).*\\w <=? .*"));
    }

    @Override
    public Void visitIf(IfTree tree, Void p) {
        holds("an if has braces", tree.getThenStatement() instanceof BlockTree);
        return super.visitIf(tree, p);
    }
}
