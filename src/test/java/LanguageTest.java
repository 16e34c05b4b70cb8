import com.sun.source.tree.ArrayTypeTree;
import com.sun.source.tree.AssertTree;
import com.sun.source.tree.BinaryTree;
import com.sun.source.tree.BlockTree;
import com.sun.source.tree.ClassTree;
import com.sun.source.tree.CompoundAssignmentTree;
import com.sun.source.tree.DoWhileLoopTree;
import com.sun.source.tree.ExpressionTree;
import com.sun.source.tree.ForLoopTree;
import com.sun.source.tree.IdentifierTree;
import com.sun.source.tree.InstanceOfTree;
import com.sun.source.tree.LambdaExpressionTree;
import com.sun.source.tree.LiteralTree;
import com.sun.source.tree.MemberReferenceTree;
import com.sun.source.tree.MemberSelectTree;
import com.sun.source.tree.MethodInvocationTree;
import com.sun.source.tree.MethodTree;
import com.sun.source.tree.NewArrayTree;
import com.sun.source.tree.NewClassTree;
import com.sun.source.tree.ParenthesizedTree;
import com.sun.source.tree.SynchronizedTree;
import com.sun.source.tree.ThrowTree;
import com.sun.source.tree.Tree;
import com.sun.source.tree.TryTree;
import com.sun.source.tree.TypeCastTree;
import com.sun.source.tree.VariableTree;
import com.sun.source.tree.WhileLoopTree;
import com.sun.source.util.TreePath;
import com.sun.source.util.TreePathScanner;
import java.io.IOException;
import java.nio.charset.StandardCharsets;
import java.nio.file.Files;
import java.nio.file.Path;
import java.util.HashSet;
import java.util.Map;
import java.util.Set;
import java.util.regex.Matcher;
import java.util.regex.Pattern;
import javax.lang.model.element.Element;
import javax.lang.model.element.Modifier;
import javax.lang.model.element.VariableElement;
import javax.lang.model.type.ArrayType;
import javax.lang.model.type.TypeKind;
import javax.lang.model.type.TypeMirror;

/** The rules of LANGUAGE.md, asked of the class as the compiler reads it; run from the project's folder. */
public final class LanguageTest extends TreePathScanner<Void, Void> {
    private static final Check C = Check.begin();
    private static final Path SOURCE = Path.of("src/main/java/OtherDoor.java");
    /** What the class needs of the library; LANGUAGE.md allows more. */
    private static final Set<String> LIBRARY = Set.of("java.lang.Object.<init>", "java.lang.String.length", "java.lang.String.charAt",
        "java.lang.Integer.bitCount", "java.lang.System.arraycopy", "java.util.Arrays.fill");
    private static final Set<Tree.Kind> LESS = Set.of(Tree.Kind.LESS_THAN, Tree.Kind.LESS_THAN_EQUAL);
    private static final Set<Tree.Kind> GREATER = Set.of(Tree.Kind.GREATER_THAN, Tree.Kind.GREATER_THAN_EQUAL);
    private static final Set<Tree.Kind> UP = Set.of(Tree.Kind.POSTFIX_INCREMENT, Tree.Kind.PREFIX_INCREMENT, Tree.Kind.PLUS_ASSIGNMENT);
    private static final Set<Tree.Kind> DOWN = Set.of(Tree.Kind.POSTFIX_DECREMENT, Tree.Kind.PREFIX_DECREMENT, Tree.Kind.MINUS_ASSIGNMENT);

    private final Code code;

    private LanguageTest(Code code) {
        this.code = code;
    }

    private static void none(String rule, String pattern, String text) {
        Matcher m = Pattern.compile(pattern, Pattern.MULTILINE).matcher(text);
        int found = 0;
        while (m.find()) {
            found++;
            System.out.println(rule + ": " + m.group());
        }
        C.due(rule, found, 0);
    }

    private void ok(String rule, Tree tree, boolean holds) {
        C.due("line " + code.lineOf(tree) + ", rule " + rule, holds ? 1 : 0, 1);
    }

    private Element elementOf(Tree tree) {
        return code.elementOf(getCurrentPath(), tree);
    }

    private TypeMirror typeOf(Tree tree) {
        return code.trees.getTypeMirror(new TreePath(getCurrentPath(), tree));
    }

    // ---- rules 1 to 6, 12: what there is

    @Override
    public Void visitClass(ClassTree tree, Void v) {
        Tree outer = getCurrentPath().getParentPath().getLeaf();
        boolean isOuter = outer == code.unit;
        Set<Modifier> has = tree.getModifiers().getFlags();
        ok("1, 2: " + tree.getSimpleName() + " stands in the class itself, and is static", tree,
            isOuter || outer instanceof ClassTree && has.contains(Modifier.STATIC) && !has.contains(Modifier.PUBLIC) && !has.contains(Modifier.PROTECTED));
        for (Tree member : tree.getMembers()) {
            ok("5: no initialiser block", member, !(member instanceof BlockTree));
        }
        return super.visitClass(tree, v);
    }

    @Override
    public Void visitVariable(VariableTree tree, Void v) {
        VariableElement variable = (VariableElement) code.trees.getElement(getCurrentPath());
        ok("3: the type of " + tree, tree, isOfTheLanguage(variable.asType()));
        if (variable.getModifiers().contains(Modifier.STATIC)) {
            ok("5: a static field is final, of numbers or a text", tree, variable.getModifiers().contains(Modifier.FINAL)
                && (variable.getConstantValue() != null || tree.getInitializer() instanceof NewArrayTree row && row.getInitializers() != null));
        }
        return super.visitVariable(tree, v);
    }

    private static boolean isOfTheLanguage(TypeMirror type) {
        if (type instanceof ArrayType row) {
            TypeMirror cell = row.getComponentType();
            return cell instanceof ArrayType inner ? inner.getComponentType().getKind().isPrimitive() : isOfTheLanguage(cell);
        }
        // doubles and floats are allowed, but nothing here needs them
        return type.getKind().isPrimitive() ? type.getKind() != TypeKind.DOUBLE && type.getKind() != TypeKind.FLOAT
            : type.toString().equals("java.lang.String") || type.toString().startsWith("OtherDoor");
    }

    @Override
    public Void visitMethodInvocation(MethodInvocationTree tree, Void v) {
        Element method = code.trees.getElement(getCurrentPath());
        String name = method.getEnclosingElement() + "." + method.getSimpleName();
        ok("4, 13: the library's " + name, tree, name.startsWith("OtherDoor") || LIBRARY.contains(name));
        return super.visitMethodInvocation(tree, v);
    }

    @Override
    public Void visitNewClass(NewClassTree tree, Void v) {
        ok("2: no anonymous class", tree, tree.getClassBody() == null);
        ok("4: made is what is of the class", tree, typeOf(tree.getIdentifier()).toString().startsWith("OtherDoor"));
        ok("12: made once, with the object that holds it", tree, isInField());
        return super.visitNewClass(tree, v);
    }

    @Override
    public Void visitNewArray(NewArrayTree tree, Void v) {
        ok("12: made once, with the object that holds it", tree, isInField());
        return super.visitNewArray(tree, v);
    }

    private boolean isInField() {
        TreePath at = getCurrentPath();
        while (!(at.getLeaf() instanceof VariableTree) && !(at.getLeaf() instanceof MethodTree) && at.getParentPath() != null) {
            at = at.getParentPath();
        }
        return at.getLeaf() instanceof VariableTree && at.getParentPath().getLeaf() instanceof ClassTree;
    }

    @Override
    public Void visitIdentifier(IdentifierTree tree, Void v) {
        staticRowIsRead(tree);
        return super.visitIdentifier(tree, v);
    }

    @Override
    public Void visitMemberSelect(MemberSelectTree tree, Void v) {
        staticRowIsRead(tree);
        return super.visitMemberSelect(tree, v);
    }

    private void staticRowIsRead(Tree tree) {
        Element is = code.trees.getElement(getCurrentPath());
        if (is instanceof VariableElement row && row.getModifiers().contains(Modifier.STATIC) && row.asType() instanceof ArrayType) {
            TreePath cell = getCurrentPath().getParentPath();
            ok("5: a static array is only read", tree, cell.getLeaf().getKind() == Tree.Kind.ARRAY_ACCESS
                && cell.getParentPath().getLeaf() instanceof VariableTree);
        }
    }

    @Override
    public Void visitLambdaExpression(LambdaExpressionTree tree, Void v) {
        ok("2: no lambda", tree, false);
        return null;
    }

    @Override
    public Void visitMemberReference(MemberReferenceTree tree, Void v) {
        ok("2: no method reference", tree, false);
        return null;
    }

    @Override
    public Void visitThrow(ThrowTree tree, Void v) {
        ok("6: no throw", tree, false);
        return null;
    }

    @Override
    public Void visitTry(TryTree tree, Void v) {
        ok("6: no try", tree, false);
        return null;
    }

    @Override
    public Void visitSynchronized(SynchronizedTree tree, Void v) {
        ok("6: no synchronized", tree, false);
        return null;
    }

    @Override
    public Void visitAssert(AssertTree tree, Void v) {
        ok("6: no assert", tree, false);
        return null;
    }

    @Override
    public Void visitInstanceOf(InstanceOfTree tree, Void v) {
        ok("6: nothing here needs instanceof", tree, false);
        return null;
    }

    @Override
    public Void visitTypeCast(TypeCastTree tree, Void v) {
        ok("6: casts of numbers alone", tree, tree.getType().getKind() == Tree.Kind.PRIMITIVE_TYPE);
        return super.visitTypeCast(tree, v);
    }

    @Override
    public Void visitLiteral(LiteralTree tree, Void v) {
        ok("7: no reference is null here, so none is tested", tree, tree.getKind() != Tree.Kind.NULL_LITERAL);
        return null;
    }

    // ---- rule 7: divisors; rules 6, 10: texts

    @Override
    public Void visitBinary(BinaryTree tree, Void v) {
        boolean isNumbers = typeOf(tree.getLeftOperand()).getKind().isPrimitive() && typeOf(tree.getRightOperand()).getKind().isPrimitive();
        ok("6, 10: no texts are joined or compared by signs", tree, isNumbers);
        if (tree.getKind() == Tree.Kind.DIVIDE || tree.getKind() == Tree.Kind.REMAINDER) {
            ok("7: a divisor is told, and is not 0", tree, isToldAboveZero(tree.getRightOperand()));
        }
        return super.visitBinary(tree, v);
    }

    @Override
    public Void visitCompoundAssignment(CompoundAssignmentTree tree, Void v) {
        ok("7: no divisor", tree, tree.getKind() != Tree.Kind.DIVIDE_ASSIGNMENT && tree.getKind() != Tree.Kind.REMAINDER_ASSIGNMENT);
        return super.visitCompoundAssignment(tree, v);
    }

    private boolean isToldAboveZero(ExpressionTree tree) {
        Object told = tree instanceof LiteralTree literal ? literal.getValue()
            : elementOf(tree) instanceof VariableElement field ? field.getConstantValue() : null;
        return told instanceof Integer n && n > 0;
    }

    // ---- rule 9: each loop has a counter that goes on alone towards a bound that nothing in the loop moves

    @Override
    public Void visitForLoop(ForLoopTree tree, Void v) {
        boolean ends = false;
        if (tree.getInitializer().size() == 1 && tree.getUpdate().size() == 1 && tree.getCondition() != null) {
            Element counter = elementOf(tree.getInitializer().get(0));
            ExpressionTree update = tree.getUpdate().get(0).getExpression();
            Set<Element> moved = code.changedIn(new TreePath(getCurrentPath(), tree.getStatement()));
            Set<Element> updated = code.changedIn(new TreePath(getCurrentPath(), update));
            ends = !moved.contains(counter) && updated.equals(Set.of(counter)) && isBounded(tree.getCondition(), counter, update.getKind(), moved);
        }
        ok("9: the end of a loop is seen", tree, ends);
        return super.visitForLoop(tree, v);
    }

    private boolean isBounded(ExpressionTree condition, Element counter, Tree.Kind update, Set<Element> moved) {
        ExpressionTree is = condition;
        while (is instanceof ParenthesizedTree inner) {
            is = inner.getExpression();
        }
        if (!(is instanceof BinaryTree pair)) {
            return false;
        }
        if (pair.getKind() == Tree.Kind.CONDITIONAL_AND) {
            return isBounded(pair.getLeftOperand(), counter, update, moved) || isBounded(pair.getRightOperand(), counter, update, moved);
        }
        boolean goesThere = LESS.contains(pair.getKind()) && UP.contains(update) || GREATER.contains(pair.getKind()) && DOWN.contains(update);
        return goesThere && counter.equals(elementOf(pair.getLeftOperand())) && !isMoved(pair.getRightOperand(), moved, counter);
    }

    private boolean isMoved(ExpressionTree bound, Set<Element> moved, Element counter) {
        Set<Element> all = new HashSet<>();
        new TreePathScanner<Void, Void>() {
            @Override
            public Void visitIdentifier(IdentifierTree tree, Void v) {
                all.add(code.trees.getElement(getCurrentPath()));
                return null;
            }

            @Override
            public Void visitMemberSelect(MemberSelectTree tree, Void v) {
                all.add(code.trees.getElement(getCurrentPath()));
                return super.visitMemberSelect(tree, v);
            }
        }.scan(new TreePath(getCurrentPath(), bound), null);
        boolean hasCounter = all.contains(counter);
        all.retainAll(moved);
        return hasCounter || !all.isEmpty();
    }

    @Override
    public Void visitWhileLoop(WhileLoopTree tree, Void v) {
        boolean ends = false;
        if (tree.getStatement() instanceof BlockTree block && block.getStatements().size() == 1) {
            Set<Element> moved = code.changedIn(new TreePath(getCurrentPath(), block));
            String only = block.getStatements().get(0).toString();
            ends = moved.size() == 1 && only.endsWith("++;")
                && isBounded(tree.getCondition(), moved.iterator().next(), Tree.Kind.POSTFIX_INCREMENT, moved);
        }
        ok("9: the end of a loop is seen", tree, ends);
        return super.visitWhileLoop(tree, v);
    }

    @Override
    public Void visitDoWhileLoop(DoWhileLoopTree tree, Void v) {
        ok("9: no loop here runs ahead of its bound", tree, false);
        return null;
    }

    // ---- rules 8, 11: methods

    private void methods() {
        for (Map.Entry<Element, MethodTree> e : code.methods.entrySet()) {
            MethodTree tree = e.getValue();
            ok("11: at most 60 lines, " + e.getKey(), tree, code.linesOf(tree) <= 60);
            ok("11: at most 7 parameters, " + e.getKey(), tree, tree.getParameters().size() <= 7);
            ok("11: at most 8 calls deep, " + e.getKey(), tree, code.depth(e.getKey(), Set.of()) <= 8);
            if (code.isRecursive(e.getKey())) {
                ok("8: " + e.getKey() + " is private and carries its depth", tree, e.getKey().getModifiers().contains(Modifier.PRIVATE)
                    && tree.getParameters().stream().anyMatch(p -> p.getName().contentEquals("depth")));
            }
        }
    }

    public static void main(String[] args) throws IOException {
        String text = Files.readString(SOURCE, StandardCharsets.UTF_8);
        none("rule 3, 4: signs 1 to 127", "[^\\x01-\\x7f]", text);
        none("one file without a package", "^\\s*package\\b.*", text);
        none("rule 4: the library", "^\\s*import (?!java\\.util\\.Arrays;).*", text);
        Code code = new Code(SOURCE);
        C.due("one class in the file", code.unit.getTypeDecls().size(), 1);
        LanguageTest test = new LanguageTest(code);
        test.scan(new TreePath(code.unit), null);
        test.methods();
        C.finish("LanguageTest");
    }
}
