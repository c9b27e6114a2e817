import com.sun.source.tree.BinaryTree;
import com.sun.source.tree.CompilationUnitTree;
import com.sun.source.tree.MethodInvocationTree;
import com.sun.source.tree.MethodTree;
import com.sun.source.tree.Tree;
import com.sun.source.util.JavacTask;
import com.sun.source.util.SourcePositions;
import com.sun.source.util.TreePath;
import com.sun.source.util.TreePathScanner;
import com.sun.source.util.Trees;
import java.io.IOException;
import java.nio.file.Path;
import java.util.ArrayDeque;
import java.util.LinkedHashMap;
import java.util.LinkedHashSet;
import java.util.List;
import java.util.Map;
import java.util.Set;
import javax.lang.model.element.ElementKind;
import javax.lang.model.element.ExecutableElement;
import javax.lang.model.element.TypeElement;
import javax.tools.JavaCompiler;
import javax.tools.StandardJavaFileManager;
import javax.tools.ToolProvider;

/** LANGUAGE.md 8, 10 and 11, looked up in the source: who calls whom, how deep, how long methods are. */
public final class CallsTest {
    private static final Checks DUE = new Checks();
    private static final int DEEPEST = 8, LONGEST = 60;
    private static final Set<String> READING =
        Set.of("readOr", "readAnd", "readNot", "readSum", "readTerm", "readOne");

    /** Which method calls which, the library's, too. */
    private final Map<ExecutableElement, Set<ExecutableElement>> calls = new LinkedHashMap<>();
    private final Map<ExecutableElement, Set<ExecutableElement>> reached = new LinkedHashMap<>();

    public static void main(String[] args) throws IOException {
        new CallsTest().look(Path.of(System.getProperty("project.dir", "."), "src/main/java/UnderlayOfUnspoken.java"));
        DUE.end();
    }

    private void look(Path source) throws IOException {
        JavaCompiler compiler = ToolProvider.getSystemJavaCompiler();
        try (StandardJavaFileManager files = compiler.getStandardFileManager(null, null, null)) {
            JavacTask task = (JavacTask) compiler.getTask(null, files, null, List.of("-proc:none"), null,
                files.getJavaFileObjects(source));
            CompilationUnitTree unit = task.parse().iterator().next();
            task.analyze();
            Collector collector = new Collector(task, unit);
            collector.scan(unit, null);
            collector.keepCalls();
        }
        DUE.holds("methods were found", calls.size() > 100);
        for (ExecutableElement method : calls.keySet()) {
            reached.put(method, reachedFrom(method));
        }
        for (ExecutableElement method : calls.keySet()) {
            String name = method.getEnclosingElement().getSimpleName() + "." + method.getSimpleName();
            DUE.same(name + " may call itself", reached.get(method).contains(method) ? 1 : 0,
                READING.contains(method.getSimpleName().toString()) ? 1 : 0);
            int deep = deepest(method);
            DUE.holds(name + " goes " + deep + " deep, at most " + DEEPEST, deep <= DEEPEST);
        }
    }

    private Set<ExecutableElement> reachedFrom(ExecutableElement from) {
        Set<ExecutableElement> found = new LinkedHashSet<>();
        ArrayDeque<ExecutableElement> ahead = new ArrayDeque<>(calls.get(from));
        while (!ahead.isEmpty()) {
            ExecutableElement next = ahead.pop();
            if (found.add(next)) {
                ahead.addAll(calls.getOrDefault(next, Set.of()));
            }
        }
        return found;
    }

    /** How many calls stand open at once; such as call one another are recursion, and stand for one. */
    private int deepest(ExecutableElement method) {
        int most = 0;
        for (ExecutableElement member : calls.keySet()) {
            if (member == method || together(member, method)) {
                for (ExecutableElement next : calls.get(member)) {
                    most = next == method || together(next, method) ? most : Math.max(most, deepest(next));
                }
            }
        }
        return most + 1;
    }

    private boolean together(ExecutableElement a, ExecutableElement b) {
        return reached.getOrDefault(a, Set.of()).contains(b) && reached.getOrDefault(b, Set.of()).contains(a);
    }

    private final class Collector extends TreePathScanner<Void, Void> {
        private final JavacTask task;
        private final Trees trees;
        private final CompilationUnitTree unit;
        /** Calls that may land in a method that overrides the one they name, too: all but those by super. */
        private final Map<ExecutableElement, Set<ExecutableElement>> open = new LinkedHashMap<>();
        private ExecutableElement within;

        private Collector(JavacTask task, CompilationUnitTree unit) {
            this.task = task;
            this.trees = Trees.instance(task);
            this.unit = unit;
        }

        private void keepCalls() {
            for (ExecutableElement method : calls.keySet()) {
                for (ExecutableElement named : open.get(method)) {
                    calls.get(method).add(named);
                    for (ExecutableElement other : calls.keySet()) {
                        if (task.getElements().overrides(other, named, (TypeElement) other.getEnclosingElement())) {
                            calls.get(method).add(other);
                        }
                    }
                }
            }
        }

        @Override
        public Void visitMethod(MethodTree node, Void none) {
            within = (ExecutableElement) trees.getElement(getCurrentPath());
            calls.put(within, new LinkedHashSet<>());
            open.put(within, new LinkedHashSet<>());
            SourcePositions places = trees.getSourcePositions();
            long lines = 1 + unit.getLineMap().getLineNumber(places.getEndPosition(unit, node))
                - unit.getLineMap().getLineNumber(places.getStartPosition(unit, node));
            DUE.holds(within + " has " + lines + " lines, at most " + LONGEST, lines <= LONGEST);
            super.visitMethod(node, none);
            within = null;
            return null;
        }

        @Override
        public Void visitMethodInvocation(MethodInvocationTree node, Void none) {
            if (within != null && trees.getElement(getCurrentPath()) instanceof ExecutableElement called
                    && called.getKind() == ElementKind.METHOD) {
                boolean bySuper = node.getMethodSelect().toString().startsWith("super.");
                (bySuper ? calls : open).get(within).add(called);
            }
            return super.visitMethodInvocation(node, none);
        }

        @Override
        public Void visitBinary(BinaryTree node, Void none) {
            if (node.getKind() == Tree.Kind.PLUS) {
                DUE.holds("numbers alone stand on both sides of " + node,
                    isNumber(node.getLeftOperand()) && isNumber(node.getRightOperand()));
            }
            return super.visitBinary(node, none);
        }

        private boolean isNumber(Tree side) {
            return trees.getTypeMirror(new TreePath(getCurrentPath(), side)).getKind().isPrimitive();
        }
    }
}
