import com.sun.source.tree.ArrayAccessTree;
import com.sun.source.tree.AssignmentTree;
import com.sun.source.tree.CompilationUnitTree;
import com.sun.source.tree.CompoundAssignmentTree;
import com.sun.source.tree.ExpressionTree;
import com.sun.source.tree.MethodInvocationTree;
import com.sun.source.tree.MethodTree;
import com.sun.source.tree.ParenthesizedTree;
import com.sun.source.tree.Tree;
import com.sun.source.tree.UnaryTree;
import com.sun.source.util.JavacTask;
import com.sun.source.util.TreePath;
import com.sun.source.util.TreePathScanner;
import com.sun.source.util.Trees;
import java.io.IOException;
import java.nio.file.Path;
import java.util.HashSet;
import java.util.LinkedHashMap;
import java.util.LinkedHashSet;
import java.util.List;
import java.util.Map;
import java.util.Set;
import javax.lang.model.element.Element;
import javax.lang.model.element.ElementKind;
import javax.tools.JavaCompiler;
import javax.tools.StandardJavaFileManager;
import javax.tools.ToolProvider;

/** The class as the compiler reads it: who calls whom, and what each method changes. */
final class Code {
    final CompilationUnitTree unit;
    final Trees trees;
    /** For each method of the class, and of those inside it, the own methods that it calls. */
    final Map<Element, Set<Element>> calls = new LinkedHashMap<>();
    final Map<Element, MethodTree> methods = new LinkedHashMap<>();
    private final Map<Element, Set<Element>> changes = new LinkedHashMap<>();

    Code(Path source) throws IOException {
        JavaCompiler compiler = ToolProvider.getSystemJavaCompiler();
        StandardJavaFileManager files = compiler.getStandardFileManager(null, null, null);
        JavacTask task = (JavacTask) compiler.getTask(null, files, null, List.of("--release", "17", "-proc:none"), null,
            files.getJavaFileObjects(source));
        unit = task.parse().iterator().next();
        task.analyze();
        trees = Trees.instance(task);
        new MethodScanner().scan(new TreePath(unit), null);
    }

    /** All that a place of the class changes: its variables, fields, fields by what is called there. */
    Set<Element> changedIn(TreePath place) {
        ChangeScanner scanner = new ChangeScanner();
        scanner.scan(place, null);
        Set<Element> all = new HashSet<>(scanner.changed);
        for (Element method : closure(scanner.called)) {
            for (Element is : changes.getOrDefault(method, Set.of())) {
                // a local variable of a call is another one each time
                if (is.getKind() == ElementKind.FIELD) {
                    all.add(is);
                }
            }
        }
        return all;
    }

    private Set<Element> closure(Set<Element> some) {
        Set<Element> all = new LinkedHashSet<>();
        Set<Element> next = new LinkedHashSet<>(some);
        while (!next.isEmpty()) {
            all.addAll(next);
            Set<Element> more = new LinkedHashSet<>();
            for (Element method : next) {
                more.addAll(calls.getOrDefault(method, Set.of()));
            }
            more.removeAll(all);
            next = more;
        }
        return all;
    }

    boolean isRecursive(Element method) {
        return closure(calls.get(method)).contains(method);
    }

    /** How many calls stand open at most when a method is called, recursion left out. */
    int depth(Element method, Set<Element> open) {
        Set<Element> with = new HashSet<>(open);
        with.add(method);
        int most = 0;
        for (Element called : calls.get(method)) {
            most = with.contains(called) ? most : Math.max(most, depth(called, with));
        }
        return most + 1;
    }

    int lineOf(Tree tree) {
        return (int) unit.getLineMap().getLineNumber(trees.getSourcePositions().getStartPosition(unit, tree));
    }

    int linesOf(Tree tree) {
        return (int) unit.getLineMap().getLineNumber(trees.getSourcePositions().getEndPosition(unit, tree)) - lineOf(tree) + 1;
    }

    /** What a text stands for: a class, a method, a field, a local variable. */
    Element elementOf(TreePath around, Tree tree) {
        return trees.getElement(new TreePath(around, tree));
    }

    /** The variable that is changed where a target is assigned: of a cell its array. */
    private Element targetOf(TreePath around, ExpressionTree target) {
        ExpressionTree is = target;
        while (is instanceof ArrayAccessTree || is instanceof ParenthesizedTree) {
            is = is instanceof ArrayAccessTree cell ? cell.getExpression() : ((ParenthesizedTree) is).getExpression();
        }
        return elementOf(around, is);
    }

    static boolean changes(Tree.Kind kind) {
        return kind == Tree.Kind.POSTFIX_INCREMENT || kind == Tree.Kind.POSTFIX_DECREMENT
            || kind == Tree.Kind.PREFIX_INCREMENT || kind == Tree.Kind.PREFIX_DECREMENT;
    }

    private final class ChangeScanner extends TreePathScanner<Void, Void> {
        final Set<Element> changed = new HashSet<>();
        final Set<Element> called = new LinkedHashSet<>();

        @Override
        public Void visitAssignment(AssignmentTree tree, Void v) {
            changed.add(targetOf(getCurrentPath(), tree.getVariable()));
            return super.visitAssignment(tree, v);
        }

        @Override
        public Void visitCompoundAssignment(CompoundAssignmentTree tree, Void v) {
            changed.add(targetOf(getCurrentPath(), tree.getVariable()));
            return super.visitCompoundAssignment(tree, v);
        }

        @Override
        public Void visitUnary(UnaryTree tree, Void v) {
            if (changes(tree.getKind())) {
                changed.add(targetOf(getCurrentPath(), tree.getExpression()));
            }
            return super.visitUnary(tree, v);
        }

        @Override
        public Void visitMethodInvocation(MethodInvocationTree tree, Void v) {
            Element method = trees.getElement(getCurrentPath());
            String owner = method.getEnclosingElement().toString();
            if (owner.startsWith("OtherDoor")) {
                called.add(method);
            } else if (owner.equals("java.util.Arrays") || owner.equals("java.lang.System")) {
                // fill() changes its first argument, arraycopy() its third one
                changed.add(targetOf(getCurrentPath(), tree.getArguments().get(owner.equals("java.lang.System") ? 2 : 0)));
            }
            return super.visitMethodInvocation(tree, v);
        }
    }

    private final class MethodScanner extends TreePathScanner<Void, Void> {
        @Override
        public Void visitMethod(MethodTree tree, Void v) {
            Element method = trees.getElement(getCurrentPath());
            ChangeScanner scanner = new ChangeScanner();
            scanner.scan(getCurrentPath(), null);
            calls.put(method, scanner.called);
            changes.put(method, scanner.changed);
            if (method.getKind() == ElementKind.METHOD) {
                methods.put(method, tree);
            }
            return super.visitMethod(tree, v);
        }
    }
}
