import com.sun.source.tree.BinaryTree;
import com.sun.source.tree.ClassTree;
import com.sun.source.tree.CompilationUnitTree;
import com.sun.source.tree.DoWhileLoopTree;
import com.sun.source.tree.ExpressionTree;
import com.sun.source.tree.ForLoopTree;
import com.sun.source.tree.LineMap;
import com.sun.source.tree.MethodInvocationTree;
import com.sun.source.tree.MethodTree;
import com.sun.source.tree.NewArrayTree;
import com.sun.source.tree.NewClassTree;
import com.sun.source.tree.Tree;
import com.sun.source.tree.WhileLoopTree;
import com.sun.source.util.JavacTask;
import com.sun.source.util.SourcePositions;
import com.sun.source.util.TreeScanner;
import com.sun.source.util.Trees;
import java.io.IOException;
import java.nio.file.Path;
import java.util.ArrayList;
import java.util.HashMap;
import java.util.HashSet;
import java.util.List;
import java.util.Map;
import java.util.Set;
import javax.tools.JavaCompiler;
import javax.tools.StandardJavaFileManager;
import javax.tools.ToolProvider;

/** The rules of LANGUAGE.md that need the source's structure: 4 (in methods), 8 and 10. */
public final class LanguageTest extends TreeScanner<Void, String> {
    private static final Path SOURCE = Path.of("src/main/java/ChanceForests.java");
    private static final int MOST_LINES = 60;
    private static final int MOST_DEPTH = 6;

    private final Map<String, Set<String>> calls = new HashMap<>();
    private final Map<String, Integer> lines = new HashMap<>();
    private final CompilationUnitTree unit;
    private final SourcePositions positions;

    private LanguageTest(CompilationUnitTree unit, SourcePositions positions) {
        this.unit = unit;
        this.positions = positions;
    }

    public static void main(String[] args) throws IOException {
        JavaCompiler compiler = ToolProvider.getSystemJavaCompiler();
        try (StandardJavaFileManager files = compiler.getStandardFileManager(null, null, null)) {
            JavacTask task =
                (JavacTask) compiler.getTask(null, files, null, null, null, files.getJavaFileObjects(SOURCE));
            List<CompilationUnitTree> units = new ArrayList<>();
            task.parse().forEach(units::add);
            Due.due("files", units.size(), 1);
            Due.due("classes in the file", units.get(0).getTypeDecls().size(), 1);
            LanguageTest test = new LanguageTest(units.get(0), Trees.instance(task).getSourcePositions());
            test.scan(units.get(0), "");
            test.endDue();
        }
        Due.end();
    }

    private void endDue() {
        Due.holds("methods were found", calls.size() > 16);
        for (String method : calls.keySet()) {
            Due.holds(method + " has at most " + MOST_LINES + " lines", lines.get(method) <= MOST_LINES);
            Due.holds(method + " goes at most " + MOST_DEPTH + " deep", depthOf(method, new HashSet<>()) <= MOST_DEPTH);
        }
    }

    /** How deep calls go from a method, itself counted; far too deep if it comes back to one it came from. */
    private int depthOf(String method, Set<String> above) {
        if (above.contains(method)) {
            return 1000;
        }
        Set<String> path = new HashSet<>(above);
        path.add(method);
        int deepest = 0;
        for (String called : calls.get(method)) {
            Due.holds(called + " is a method of the class", calls.containsKey(called));
            if (calls.containsKey(called)) {
                deepest = Math.max(deepest, depthOf(called, path));
            }
        }
        return deepest + 1;
    }

    @Override
    public Void visitMethod(MethodTree method, String above) {
        String name = method.getName().toString();
        Due.holds(name + " is there once", !calls.containsKey(name));
        calls.put(name, new HashSet<>());
        LineMap map = unit.getLineMap();
        long first = map.getLineNumber(positions.getStartPosition(unit, method));
        long last = map.getLineNumber(positions.getEndPosition(unit, method));
        lines.put(name, (int) (last - first + 1));
        return super.visitMethod(method, name);
    }

    @Override
    public Void visitClass(ClassTree type, String above) {
        Due.holds("no class within " + above, above.isEmpty());
        return super.visitClass(type, "the class");
    }

    @Override
    public Void visitMethodInvocation(MethodInvocationTree call, String method) {
        String called = call.getMethodSelect().toString();
        Due.holds("a call stands in a method: " + call, calls.containsKey(method));
        if (calls.containsKey(method)) {
            calls.get(method).add(called);
        }
        for (ExpressionTree argument : call.getArguments()) {
            Due.holds(method + ": no call in the arguments of " + call, !holdsCall(argument));
        }
        return super.visitMethodInvocation(call, method);
    }

    private static boolean holdsCall(Tree tree) {
        boolean[] found = {false};
        new TreeScanner<Void, Void>() {
            @Override
            public Void visitMethodInvocation(MethodInvocationTree call, Void none) {
                found[0] = true;
                return null;
            }
        }.scan(tree, null);
        return found[0];
    }

    @Override
    public Void visitForLoop(ForLoopTree loop, String method) {
        boolean hasBound = loop.getCondition() != null && isBound(loop.getCondition());
        Due.holds(method + ": a loop counts up to a bound: " + loop.getCondition(),
            hasBound && loop.getUpdate().size() == 1 && loop.getInitializer().size() == 1);
        return super.visitForLoop(loop, method);
    }

    /** A comparison by less, or one of two that both have to hold. */
    private static boolean isBound(Tree condition) {
        if (!(condition instanceof BinaryTree)) {
            return false;
        }
        BinaryTree both = (BinaryTree) condition;
        return switch (both.getKind()) {
            case LESS_THAN, LESS_THAN_EQUAL -> true;
            case CONDITIONAL_AND -> isBound(both.getLeftOperand()) || isBound(both.getRightOperand());
            default -> false;
        };
    }

    @Override
    public Void visitWhileLoop(WhileLoopTree loop, String method) {
        return otherLoop(method);
    }

    @Override
    public Void visitDoWhileLoop(DoWhileLoopTree loop, String method) {
        return otherLoop(method);
    }

    /** Stricter than the rule: whether such a loop has an end would have to be read, and none is needed. */
    private static Void otherLoop(String method) {
        Due.holds(method + ": every loop is one of for with a counter", false);
        return null;
    }

    @Override
    public Void visitNewArray(NewArrayTree made, String method) {
        Due.holds(method + ": arrays are made in the fields' initialisers: " + made, !calls.containsKey(method));
        return super.visitNewArray(made, method);
    }

    @Override
    public Void visitNewClass(NewClassTree made, String method) {
        Due.holds(method + ": no object is made: " + made, false);
        return super.visitNewClass(made, method);
    }
}
