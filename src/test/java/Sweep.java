import com.sun.source.tree.AssignmentTree;
import com.sun.source.tree.BinaryTree;
import com.sun.source.tree.CompilationUnitTree;
import com.sun.source.tree.CompoundAssignmentTree;
import com.sun.source.tree.ConditionalExpressionTree;
import com.sun.source.tree.ExpressionStatementTree;
import com.sun.source.tree.ExpressionTree;
import com.sun.source.tree.IdentifierTree;
import com.sun.source.tree.IfTree;
import com.sun.source.tree.LiteralTree;
import com.sun.source.tree.MethodInvocationTree;
import com.sun.source.tree.ReturnTree;
import com.sun.source.tree.Tree;
import com.sun.source.tree.UnaryTree;
import com.sun.source.util.JavacTask;
import com.sun.source.util.SourcePositions;
import com.sun.source.util.TreePathScanner;
import com.sun.source.util.Trees;
import java.io.OutputStream;
import java.io.PrintStream;
import java.nio.file.Files;
import java.nio.file.Path;
import java.util.ArrayList;
import java.util.Collections;
import java.util.LinkedHashMap;
import java.util.List;
import java.util.Map;
import java.util.concurrent.ConcurrentLinkedQueue;
import java.util.concurrent.ExecutorService;
import java.util.concurrent.Executors;
import java.util.concurrent.TimeUnit;
import java.util.concurrent.atomic.AtomicInteger;
import javax.lang.model.type.TypeMirror;
import javax.tools.ToolProvider;

/**
 * No test, but a search for sentences without a test: some 7,000 small changes of the class, each by itself, are put
 * to the sentences of src/test/edges, and what no sentence sees to seeded runs beside the model. What these see
 * ("SEEN BY THE MODEL") wants a sentence; the rest, which is told to be read, should be guards, bounds and first
 * values that no call can show. It takes some 20 minutes on eight cores.
 */
public final class Sweep extends TreePathScanner<Void, Void> {
    private static final int RUNS = 400;
    private static final PrintStream OUT = System.out;

    /** From one place of the text to another there stands something else. */
    private record Change(int from, int to, String by, long line) { }

    private final String source;
    private final CompilationUnitTree unit;
    private final Trees trees;
    private final SourcePositions positions;
    private final Map<String, Change> changes = new LinkedHashMap<>();
    private final ConcurrentLinkedQueue<String> unseen = new ConcurrentLinkedQueue<>();
    private final AtomicInteger tried = new AtomicInteger();

    private Sweep(String source, CompilationUnitTree unit, Trees trees) {
        this.source = source;
        this.unit = unit;
        this.trees = trees;
        this.positions = trees.getSourcePositions();
    }

    public static void main(String[] args) throws Exception {
        // What the tests say of a wrong class is of no account here.
        System.setOut(new PrintStream(OutputStream.nullOutputStream()));
        String source = Files.readString(Path.of("src/main/java/HedgehogLots.java"));
        JavacTask task = (JavacTask) ToolProvider.getSystemJavaCompiler()
            .getTask(null, null, null, List.of("-proc:none"), null, List.of(Compiled.file("HedgehogLots", source)));
        CompilationUnitTree unit = task.parse().iterator().next();
        task.analyze();
        Sweep sweep = new Sweep(source, unit, Trees.instance(task));
        sweep.scan(unit, null);
        sweep.go();
        System.exit(0);
    }

    private void go() throws Exception {
        List<Edge> edges = Edge.all();
        ExecutorService workers = Executors.newFixedThreadPool(Runtime.getRuntime().availableProcessors());
        for (Change change : changes.values()) {
            workers.execute(() -> tryOut(change, edges));
        }
        workers.shutdown();
        workers.awaitTermination(3, TimeUnit.HOURS);
        List<String> lines = new ArrayList<>(unseen);
        Collections.sort(lines);
        for (String line : lines) {
            OUT.println(line);
        }
        OUT.println(changes.size() + " changes, " + tried + " that compile, " + lines.size() + " unseen");
    }

    private void tryOut(Change change, List<Edge> edges) {
        Face face;
        try {
            String text = source.substring(0, change.from) + change.by + source.substring(change.to);
            face = new Face(Compiled.of("HedgehogLots", text, ClassLoader.getPlatformClassLoader()));
        } catch (ReflectiveOperationException | RuntimeException e) {
            return;
        }
        tried.incrementAndGet();
        // Till it is known otherwise: a class that does not end is seen.
        String[] told = {null};
        Thread thread = new Thread(() -> told[0] = unseenBy(face, edges));
        thread.start();
        try {
            thread.join(120_000);
        } catch (InterruptedException e) {
            Thread.currentThread().interrupt();
        }
        stop(thread);
        if (told[0] != null) {
            String was = source.substring(change.from, change.to).replaceAll("\\s+", " ");
            unseen.add(told[0] + String.format("line %4d: %s -> %s", change.line, was, change.by));
        }
    }

    /** There is no other way to end a loop of a class that was changed. */
    @SuppressWarnings("deprecation")
    private static void stop(Thread thread) {
        if (thread.isAlive()) {
            thread.stop();
        }
    }

    /** Null: some sentence fails. */
    private static String unseenBy(Face face, List<Edge> edges) {
        for (Edge edge : edges) {
            if (!edge.wrongs(face).isEmpty()) {
                return null;
            }
        }
        Check check = new Check("Sweep") {
            @Override
            void due(String call, long got, long want) {
                if (got != want) {
                    throw new IllegalStateException(call);
                }
            }
        };
        try {
            for (int seed = 1; seed <= RUNS; seed++) {
                ModelTest.go(new Both(seed, check, face));
                LongRunTest.go(new Both(seed, check, face));
            }
        } catch (RuntimeException e) {
            return "SEEN BY THE MODEL (" + e.getMessage() + ") ";
        }
        return "";
    }

    // ---- the changes

    private String text(Tree tree) {
        return source.substring((int) positions.getStartPosition(unit, tree), (int) positions.getEndPosition(unit, tree));
    }

    private void becomes(Tree tree, String... others) {
        becomes(tree, tree, others);
    }

    private void becomes(Tree first, Tree last, String... others) {
        int from = (int) positions.getStartPosition(unit, first);
        int to = (int) positions.getEndPosition(unit, last);
        if (from < 0 || to < from) {
            return;
        }
        for (String by : others) {
            String was = source.substring(from, to);
            if (!by.equals(was) && !by.equals("(" + was + ")")) {
                changes.put(from + " " + to + " " + by, new Change(from, to, by, unit.getLineMap().getLineNumber(from)));
            }
        }
    }

    @Override
    public Void visitExpressionStatement(ExpressionStatementTree tree, Void p) {
        becomes(tree, ";");
        return super.visitExpressionStatement(tree, p);
    }

    @Override
    public Void visitIf(IfTree tree, Void p) {
        String condition = text(tree.getCondition());
        becomes(tree.getCondition(), "(!" + condition + ")", "(" + condition + " && Math.abs(1) != 1)",
            "(" + condition + " || Math.abs(1) == 1)");
        return super.visitIf(tree, p);
    }

    @Override
    public Void visitConditionalExpression(ConditionalExpressionTree tree, Void p) {
        becomes(tree, "(" + text(tree.getTrueExpression()) + ")", "(" + text(tree.getFalseExpression()) + ")");
        return super.visitConditionalExpression(tree, p);
    }

    @Override
    public Void visitReturn(ReturnTree tree, Void p) {
        if (tree.getExpression() != null) {
            becomes(tree.getExpression(), "BAD", "STATE", "FULL", "NONE", "0", "1", "true", "false",
                "(" + text(tree.getExpression()) + ") + 1");
        }
        return super.visitReturn(tree, p);
    }

    @Override
    public Void visitLiteral(LiteralTree tree, Void p) {
        if (tree.getValue() instanceof Integer v) {
            becomes(tree, "" + (v + 1), "(" + (v - 1) + ")");
        } else if (tree.getValue() instanceof Boolean b) {
            becomes(tree, "" + !b);
        }
        return super.visitLiteral(tree, p);
    }

    @Override
    public Void visitIdentifier(IdentifierTree tree, Void p) {
        Tree around = getCurrentPath().getParentPath().getLeaf();
        TypeMirror type = trees.getTypeMirror(getCurrentPath());
        boolean isChanged = around instanceof AssignmentTree a && a.getVariable() == tree || around instanceof UnaryTree
            || around instanceof CompoundAssignmentTree c && c.getVariable() == tree;
        if (!isChanged && type != null && type.toString().equals("int")) {
            becomes(tree, "(" + tree.getName() + " + 1)", "(" + tree.getName() + " - 1)", "0");
        }
        return super.visitIdentifier(tree, p);
    }

    @Override
    public Void visitMethodInvocation(MethodInvocationTree tree, Void p) {
        List<? extends ExpressionTree> given = tree.getArguments();
        for (int i = 0; i + 1 < given.size(); i++) {
            becomes(given.get(i), given.get(i + 1), text(given.get(i + 1)) + ", " + text(given.get(i)));
        }
        return super.visitMethodInvocation(tree, p);
    }

    @Override
    public Void visitUnary(UnaryTree tree, Void p) {
        switch (tree.getKind()) {
            case LOGICAL_COMPLEMENT, UNARY_MINUS: becomes(tree, text(tree.getExpression())); break;
            case POSTFIX_INCREMENT: becomes(tree, text(tree.getExpression()) + "--"); break;
            default: break;
        }
        return super.visitUnary(tree, p);
    }

    @Override
    public Void visitCompoundAssignment(CompoundAssignmentTree tree, Void p) {
        for (String sign : List.of("=", "+=", "-=", "|=", "^=")) {
            becomes(tree, text(tree.getVariable()) + " " + sign + " " + text(tree.getExpression()));
        }
        return super.visitCompoundAssignment(tree, p);
    }

    @Override
    public Void visitBinary(BinaryTree tree, Void p) {
        String left = text(tree.getLeftOperand());
        String right = text(tree.getRightOperand());
        for (String sign : otherSigns(tree.getKind())) {
            becomes(tree, "(" + left + " " + sign + " " + right + ")");
        }
        becomes(tree, "(" + left + ")", "(" + right + ")");
        return super.visitBinary(tree, p);
    }

    private static List<String> otherSigns(Tree.Kind kind) {
        switch (kind) {
            case LESS_THAN, LESS_THAN_EQUAL, GREATER_THAN, GREATER_THAN_EQUAL, EQUAL_TO, NOT_EQUAL_TO:
                return List.of("<", "<=", ">", ">=", "==", "!=");
            case PLUS, MINUS, MULTIPLY, DIVIDE, REMAINDER: return List.of("+", "-", "*", "/", "%");
            case CONDITIONAL_AND, CONDITIONAL_OR: return List.of("&&", "||");
            default: return List.of("<<", ">>", ">>>");
        }
    }
}
