import com.sun.source.tree.BinaryTree;
import com.sun.source.tree.CompilationUnitTree;
import com.sun.source.tree.ConditionalExpressionTree;
import com.sun.source.tree.ExpressionStatementTree;
import com.sun.source.tree.IdentifierTree;
import com.sun.source.tree.IfTree;
import com.sun.source.tree.LiteralTree;
import com.sun.source.tree.MethodInvocationTree;
import com.sun.source.tree.MethodTree;
import com.sun.source.tree.ReturnTree;
import com.sun.source.tree.Tree;
import com.sun.source.tree.UnaryTree;
import com.sun.source.util.JavacTask;
import com.sun.source.util.SourcePositions;
import com.sun.source.util.TreeScanner;
import com.sun.source.util.Trees;
import java.io.File;
import java.io.IOException;
import java.nio.file.Files;
import java.nio.file.Path;
import java.util.ArrayList;
import java.util.Arrays;
import java.util.HashMap;
import java.util.List;
import java.util.Map;
import java.util.concurrent.ExecutorService;
import java.util.concurrent.Executors;
import java.util.concurrent.Future;
import java.util.concurrent.TimeUnit;
import javax.tools.JavaCompiler;
import javax.tools.StandardJavaFileManager;
import javax.tools.ToolProvider;

/**
 * Breaks the program in one place at a time (a comparison, a number, one name for another, a statement left out) and names
 * the breaks that no test notices: each of them has to be one that changes no answer. Not part of .ci/run: it takes some minutes.
 *
 * java -cp build/own Mutants [the name of a test, ..]
 */
public final class Mutants extends TreeScanner<Void, Void> {
    private static final Path SOURCE = Path.of("src/main/java/RiskDesk.java");
    /** The first argument of a process that runs the tests one behind another on a broken program. */
    private static final String TESTS = "--tests";
    private static final Map<String, String[]> INSTEAD = new HashMap<>();
    private static final Map<String, String> TWIN = new HashMap<>();
    private static final Map<String, String> VALUE = Map.of("NONE", "-1", "LACKING", "-2");

    static {
        for (String pair : List.of("x y", "dx dy", "toX toY", "atX atY", "onX onY", "fromX fromY", "midX midY", "leastX leastY",
            "p q", "a b", "left right", "first second", "above below", "LEFT RIGHT", "i n", "from to", "least most", "xOf yOf",
            "inForce ALL", "acts alarms", "worstSet worstSums", "limit radius", "near nearest", "kept size", "start at")) {
            String[] two = pair.split(" ");
            TWIN.put(two[0], two[1]);
            TWIN.put(two[1], two[0]);
        }
        String[][] all = {{"<", "<=", ">="}, {"<=", "<", ">"}, {">", ">=", "<="}, {">=", ">", "<"}, {"==", "!="}, {"!=", "=="},
            {"+", "-"}, {"-", "+"}, {"*", "+"}, {"/", "*"}, {"%", "*"}, {"&&", "||"}, {"||", "&&"}, {"&", "|"}, {"|", "&"},
            {"<<", ">>>"}, {">>>", "<<"}};
        for (String[] row : all) INSTEAD.put(row[0], Arrays.copyOfRange(row, 1, row.length));
    }

    private final SourcePositions places;
    private final CompilationUnitTree unit;
    private final String source;
    private final List<String[]> mutants = new ArrayList<>();
    private MethodTree method;

    private Mutants(JavacTask task, CompilationUnitTree unit, String source) {
        places = Trees.instance(task).getSourcePositions();
        this.unit = unit;
        this.source = source;
    }

    public static void main(String[] args) throws Exception {
        if (args.length > 0 && args[0].equals(TESTS)) {
            for (String test : List.of(args).subList(1, args.length)) {
                Class.forName(test).getMethod("main", String[].class).invoke(null, (Object) new String[0]);
            }
            return;
        }
        String source = Files.readString(SOURCE);
        JavaCompiler compiler = ToolProvider.getSystemJavaCompiler();
        StandardJavaFileManager files = compiler.getStandardFileManager(null, null, null);
        JavacTask task = (JavacTask) compiler.getTask(null, files, null, null, null, files.getJavaFileObjects(SOURCE));
        CompilationUnitTree unit = task.parse().iterator().next();
        Mutants found = new Mutants(task, unit, source);
        found.scan(unit, null);
        String[] tests = args.length > 0 ? args : new String[] {"EdgesTest", "RangesTest", "PromisesTest", "OracleTest"};
        ExecutorService threads = Executors.newFixedThreadPool(Runtime.getRuntime().availableProcessors());
        List<Future<Boolean>> noticed = new ArrayList<>();
        for (int i = 0; i < found.mutants.size(); i++) {
            int n = i;
            noticed.add(threads.submit(() -> isNoticed(n, found.mutants.get(n)[1], tests)));
        }
        int unnoticed = 0;
        for (int i = 0; i < noticed.size(); i++) {
            if (!noticed.get(i).get()) {
                unnoticed++;
                System.out.println(found.mutants.get(i)[0]);
            }
        }
        threads.shutdown();
        System.out.println(unnoticed + " of " + noticed.size() + " breaks are not noticed");
    }

    /** One that does not compile, throws or does not end is noticed as well. */
    private static boolean isNoticed(int n, String mutant, String[] tests) throws IOException, InterruptedException {
        Path place = Files.createDirectories(Path.of("build/mutants/" + n));
        Path file = place.resolve("RiskDesk.java");
        Files.writeString(file, mutant);
        if (runs("javac", "-nowarn", "-d", place.toString(), file.toString()) != 0) return true;
        List<String> command = new ArrayList<>(List.of("java", "-XX:TieredStopAtLevel=1", "-XX:+UseSerialGC", "-cp",
                place + File.pathSeparator + "build/own", "Mutants", TESTS));
        command.addAll(List.of(tests));
        return runs(command.toArray(new String[0])) != 0;
    }

    private static int runs(String... command) throws IOException, InterruptedException {
        Process process = new ProcessBuilder(command).redirectErrorStream(true)
                .redirectOutput(ProcessBuilder.Redirect.DISCARD).start();
        if (process.waitFor(60, TimeUnit.SECONDS)) return process.exitValue();
        process.destroyForcibly();
        return -1;
    }

    // ---- breaks ----

    private int start(Tree tree) {
        return (int) places.getStartPosition(unit, tree);
    }

    private int end(Tree tree) {
        return (int) places.getEndPosition(unit, tree);
    }

    private void replace(int from, int to, String by) {
        String was = source.substring(from, to);
        if (by.equals(was) || by.equals(VALUE.get(was))) return;
        long line = unit.getLineMap().getLineNumber(from);
        int first = (int) unit.getLineMap().getStartPosition(line);
        int last = source.indexOf('\n', to);
        String mutant = source.substring(0, from) + by + source.substring(to);
        String shown = source.substring(first, from) + "[" + was + " -> " + by + "]" + source.substring(to, last);
        mutants.add(new String[] {line + ": " + shown.trim().replaceAll("\\s+", " "), mutant});
    }

    @Override
    public Void visitBinary(BinaryTree node, Void v) {
        int from = end(node.getLeftOperand());
        int to = start(node.getRightOperand());
        String between = source.substring(from, to);
        String sign = between.replaceAll("[()\\s]", "");
        for (String other : INSTEAD.getOrDefault(sign, new String[0])) replace(from, to, between.replace(sign, other));
        return super.visitBinary(node, v);
    }

    @Override
    public Void visitLiteral(LiteralTree node, Void v) {
        if (node.getValue() instanceof Integer || node.getValue() instanceof Long) {
            long value = ((Number) node.getValue()).longValue();
            String kind = node.getValue() instanceof Long ? "L" : "";
            if (value < Integer.MAX_VALUE || !kind.isEmpty()) replace(start(node), end(node), value + 1 + kind);
            replace(start(node), end(node), "(" + (value - 1) + kind + ")");
        }
        return super.visitLiteral(node, v);
    }

    @Override
    public Void visitExpressionStatement(ExpressionStatementTree node, Void v) {
        replace(start(node), end(node), ";");
        return super.visitExpressionStatement(node, v);
    }

    @Override
    public Void visitIf(IfTree node, Void v) {
        replace(start(node.getCondition()), end(node.getCondition()), "(1 > 0)");
        replace(start(node.getCondition()), end(node.getCondition()), "(1 < 0)");
        return super.visitIf(node, v);
    }

    @Override
    public Void visitMethod(MethodTree node, Void v) {
        method = node;
        return super.visitMethod(node, v);
    }

    @Override
    public Void visitReturn(ReturnTree node, Void v) {
        if (node.getExpression() != null) {
            boolean test = method.getReturnType().toString().equals("boolean");
            String[] others = test ? new String[] {"true", "false"} : new String[] {"0", "-1", "-2"};
            for (String other : others) replace(start(node.getExpression()), end(node.getExpression()), other);
        }
        return super.visitReturn(node, v);
    }

    @Override
    public Void visitIdentifier(IdentifierTree node, Void v) {
        String other = TWIN.get(node.getName().toString());
        if (other != null) replace(start(node), end(node), other);
        return super.visitIdentifier(node, v);
    }

    @Override
    public Void visitConditionalExpression(ConditionalExpressionTree node, Void v) {
        replace(start(node), end(node), "(" + node.getTrueExpression() + ")");
        replace(start(node), end(node), "(" + node.getFalseExpression() + ")");
        return super.visitConditionalExpression(node, v);
    }

    @Override
    public Void visitUnary(UnaryTree node, Void v) {
        boolean not = node.getKind() == Tree.Kind.LOGICAL_COMPLEMENT || node.getKind() == Tree.Kind.UNARY_MINUS;
        if (not) replace(start(node), end(node), "" + node.getExpression());
        return super.visitUnary(node, v);
    }

    @Override
    public Void visitMethodInvocation(MethodInvocationTree node, Void v) {
        String called = node.getMethodSelect().toString();
        if (called.equals("Math.max")) replace(start(node), start(node) + 8, "Math.min");
        if (called.equals("Math.min")) replace(start(node), start(node) + 8, "Math.max");
        return super.visitMethodInvocation(node, v);
    }
}
