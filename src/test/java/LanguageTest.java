import com.sun.source.tree.AssertTree;
import com.sun.source.tree.BinaryTree;
import com.sun.source.tree.ClassTree;
import com.sun.source.tree.CompilationUnitTree;
import com.sun.source.tree.DoWhileLoopTree;
import com.sun.source.tree.ForLoopTree;
import com.sun.source.tree.ImportTree;
import com.sun.source.tree.LambdaExpressionTree;
import com.sun.source.tree.LiteralTree;
import com.sun.source.tree.MemberReferenceTree;
import com.sun.source.tree.MethodInvocationTree;
import com.sun.source.tree.MethodTree;
import com.sun.source.tree.NewArrayTree;
import com.sun.source.tree.NewClassTree;
import com.sun.source.tree.SynchronizedTree;
import com.sun.source.tree.ThrowTree;
import com.sun.source.tree.Tree;
import com.sun.source.tree.TryTree;
import com.sun.source.tree.VariableTree;
import com.sun.source.tree.WhileLoopTree;
import com.sun.source.util.JavacTask;
import com.sun.source.util.TreePathScanner;
import com.sun.source.util.Trees;
import java.nio.file.Files;
import java.nio.file.Path;
import java.util.Map;
import java.util.Set;
import java.util.TreeMap;
import java.util.TreeSet;
import javax.lang.model.element.Modifier;
import javax.tools.JavaCompiler;
import javax.tools.StandardJavaFileManager;
import javax.tools.ToolProvider;

/** The rules of LANGUAGE.md that can be told from the source by looking at it. */
public final class LanguageTest extends TreePathScanner<Void, Void> {
    private static final Set<String> IMPORTS = Set.of("java.util.ArrayList", "java.util.Arrays", "java.util.Iterator",
            "java.util.List", "java.util.NoSuchElementException");
    private static final Set<String> EXCEPTIONS = Set.of("IllegalStateException", "IllegalArgumentException",
            "IndexOutOfBoundsException", "ArithmeticException", "UnsupportedOperationException",
            "NoSuchElementException", "RuntimeException");
    private static final Set<String> LIBRARY = Set.of("Math.max", "Math.min", "Math.abs", "Math.floorDiv",
            "Math.floorMod", "Integer.bitCount", "Arrays.fill", "Arrays.copyOf", "Arrays.copyOfRange", "System.arraycopy");
    private static final Set<String> CLASSES = Set.of("Math", "Integer", "Long", "Arrays", "System", "List");
    private static final Set<String> CONSTANTS = Set.of("int", "long", "boolean", "char", "String", "int[]", "long[]",
            "char[]", "byte[]");

    private final Trees trees;
    private final CompilationUnitTree unit;
    private final String face;
    private final Map<String, Set<String>> calls = new TreeMap<>();
    private int faults;
    private int classes;
    private MethodTree method;

    private LanguageTest(JavacTask task, CompilationUnitTree unit) {
        trees = Trees.instance(task);
        this.unit = unit;
        this.face = " " + String.join(" ", Calls.NAMES) + " ";
    }

    public static void main(String[] args) throws Exception {
        Path source = Path.of("src/main/java/RiskDesk.java");
        JavaCompiler compiler = ToolProvider.getSystemJavaCompiler();
        StandardJavaFileManager files = compiler.getStandardFileManager(null, null, null);
        JavacTask task = (JavacTask) compiler.getTask(null, files, null, null, null, files.getJavaFileObjects(source));
        CompilationUnitTree unit = task.parse().iterator().next();
        LanguageTest test = new LanguageTest(task, unit);
        for (int b : Files.readAllBytes(source)) if (b < 10 || b > 126) test.fault(unit, "4: a sign that is not 1 to 127");
        test.scan(unit, null);
        for (String name : test.calls.keySet()) {
            if (test.depth(name, 0) > 8) test.fault(unit, "11: " + name + " goes " + test.depth(name, 0) + " calls deep");
        }
        if (test.classes > 12) test.fault(unit, "11: " + test.classes + " classes");
        System.out.println(test.faults == 0 ? "the source keeps to the rules" : test.faults + " faults");
        if (test.faults != 0) System.exit(1);
    }

    private void fault(Tree at, String what) {
        faults++;
        long place = trees.getSourcePositions().getStartPosition(unit, at);
        System.out.println("line " + unit.getLineMap().getLineNumber(Math.max(0, place)) + ": rule " + what);
    }

    /** How many calls stand open at once, methods of one name taken together; above 20 stands for a call of itself. */
    private int depth(String name, int above) {
        int most = 0;
        if (above > 20 || !calls.containsKey(name)) return 0;
        for (String next : calls.get(name)) most = Math.max(most, depth(next, above + 1));
        return most + 1;
    }

    private long line(long place) {
        return unit.getLineMap().getLineNumber(place);
    }

    @Override
    public Void visitImport(ImportTree node, Void v) {
        if (node.isStatic() || !IMPORTS.contains(node.getQualifiedIdentifier().toString())) fault(node, "4: import");
        return super.visitImport(node, v);
    }

    @Override
    public Void visitClass(ClassTree node, Void v) {
        classes++;
        boolean outer = node.getSimpleName().contentEquals("RiskDesk");
        Set<Modifier> is = node.getModifiers().getFlags();
        if (outer && !is.equals(Set.of(Modifier.PUBLIC, Modifier.FINAL))) fault(node, "1: the class");
        if (!outer && (is.contains(Modifier.PUBLIC) || !is.contains(Modifier.STATIC))) fault(node, "1: a class inside");
        int fields = 0;
        Set<String> left = new TreeSet<>(Set.of(Calls.NAMES));
        left.add("NONE");
        left.add("<init>");
        for (Tree member : node.getMembers()) {
            if (member.getKind() == Tree.Kind.BLOCK) fault(member, "5: an initialiser");
            if (member instanceof VariableTree) {
                VariableTree field = (VariableTree) member;
                Set<Modifier> its = field.getModifiers().getFlags();
                if (!its.contains(Modifier.STATIC)) fields++;
                else if (!its.contains(Modifier.FINAL) || !CONSTANTS.contains(field.getType().toString())) {
                    fault(field, "5: a static field");
                }
                if (outer) shown(field, field.getName().toString(), its, left);
            }
            if (outer && member instanceof MethodTree) {
                MethodTree own = (MethodTree) member;
                shown(own, own.getName().toString(), own.getModifiers().getFlags(), left);
            }
        }
        if (outer && !left.isEmpty()) fault(node, "1: the face lacks " + left);
        if (fields > 20) fault(node, "11: " + fields + " fields");
        return super.visitClass(node, v);
    }

    private void shown(Tree member, String name, Set<Modifier> is, Set<String> left) {
        if (is.contains(Modifier.PUBLIC)) {
            if (!left.remove(name)) fault(member, "1: " + name + " is not of the face");
        } else if (!is.contains(Modifier.PRIVATE)) {
            fault(member, "1: " + name + " can be seen");
        }
    }

    @Override
    public Void visitMethod(MethodTree node, Void v) {
        String name = node.getName().toString();
        if (!node.getModifiers().getFlags().contains(Modifier.PUBLIC) && face.contains(" " + name + " ")) {
            fault(node, "1: a method of its own called " + name);
        }
        if (node.getParameters().size() > 7) fault(node, "11: parameters of " + name);
        long lines = line(trees.getSourcePositions().getEndPosition(unit, node))
                - line(trees.getSourcePositions().getStartPosition(unit, node)) + 1;
        if (lines > 60) fault(node, "11: " + name + " has " + lines + " lines");
        MethodTree around = method;
        method = node;
        calls.putIfAbsent(name, new TreeSet<>());
        super.visitMethod(node, v);
        method = around;
        return null;
    }

    private boolean inCall() {
        return method != null && !method.getName().contentEquals("<init>");
    }

    @Override
    public Void visitNewClass(NewClassTree node, Void v) {
        boolean thrown = EXCEPTIONS.contains(node.getIdentifier().toString());
        if (inCall() && !thrown) fault(node, "12: a call makes an object");
        return super.visitNewClass(node, v);
    }

    @Override
    public Void visitNewArray(NewArrayTree node, Void v) {
        if (inCall()) fault(node, "12: a call makes an array");
        return super.visitNewArray(node, v);
    }

    @Override
    public Void visitThrow(ThrowTree node, Void v) {
        boolean made = node.getExpression() instanceof NewClassTree
                && EXCEPTIONS.contains(((NewClassTree) node.getExpression()).getIdentifier().toString());
        if (!made || !inCall()) fault(node, "6: throw");
        return super.visitThrow(node, v);
    }

    @Override
    public Void visitTry(TryTree node, Void v) {
        fault(node, "6: nothing in it throws what it could catch");
        return super.visitTry(node, v);
    }

    @Override
    public Void visitSynchronized(SynchronizedTree node, Void v) {
        fault(node, "6: synchronized");
        return super.visitSynchronized(node, v);
    }

    @Override
    public Void visitAssert(AssertTree node, Void v) {
        fault(node, "6: assert");
        return super.visitAssert(node, v);
    }

    @Override
    public Void visitLambdaExpression(LambdaExpressionTree node, Void v) {
        fault(node, "2: lambda");
        return super.visitLambdaExpression(node, v);
    }

    @Override
    public Void visitMemberReference(MemberReferenceTree node, Void v) {
        fault(node, "2: method reference");
        return super.visitMemberReference(node, v);
    }

    @Override
    public Void visitMethodInvocation(MethodInvocationTree node, Void v) {
        String called = node.getMethodSelect().toString();
        String on = called.substring(0, Math.max(0, called.lastIndexOf('.')));
        if (CLASSES.contains(on)) {
            if (!LIBRARY.contains(called)) fault(node, "4: " + called);
        } else if (method != null) {
            calls.get(method.getName().toString()).add(called.substring(called.lastIndexOf('.') + 1));
        }
        return super.visitMethodInvocation(node, v);
    }

    @Override
    public Void visitBinary(BinaryTree node, Void v) {
        boolean text = node.getLeftOperand().getKind() == Tree.Kind.STRING_LITERAL
                || node.getRightOperand().getKind() == Tree.Kind.STRING_LITERAL;
        if (text) fault(node, "10: a text joined or compared by " + node.getKind());
        return super.visitBinary(node, v);
    }

    @Override
    public Void visitForLoop(ForLoopTree node, Void v) {
        ended(node, node.getCondition());
        return super.visitForLoop(node, v);
    }

    @Override
    public Void visitWhileLoop(WhileLoopTree node, Void v) {
        ended(node, node.getCondition());
        return super.visitWhileLoop(node, v);
    }

    @Override
    public Void visitDoWhileLoop(DoWhileLoopTree node, Void v) {
        ended(node, node.getCondition());
        return super.visitDoWhileLoop(node, v);
    }

    private void ended(Tree loop, Tree condition) {
        if (condition == null || condition instanceof LiteralTree || condition.toString().equals("(true)")) {
            fault(loop, "9: a loop without an end");
        }
    }
}
