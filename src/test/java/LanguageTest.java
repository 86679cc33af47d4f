import com.sun.source.tree.AssertTree;
import com.sun.source.tree.AssignmentTree;
import com.sun.source.tree.BinaryTree;
import com.sun.source.tree.BlockTree;
import com.sun.source.tree.ClassTree;
import com.sun.source.tree.CompilationUnitTree;
import com.sun.source.tree.CompoundAssignmentTree;
import com.sun.source.tree.DoWhileLoopTree;
import com.sun.source.tree.EnhancedForLoopTree;
import com.sun.source.tree.ExpressionStatementTree;
import com.sun.source.tree.ExpressionTree;
import com.sun.source.tree.ForLoopTree;
import com.sun.source.tree.InstanceOfTree;
import com.sun.source.tree.LambdaExpressionTree;
import com.sun.source.tree.LiteralTree;
import com.sun.source.tree.MemberReferenceTree;
import com.sun.source.tree.MemberSelectTree;
import com.sun.source.tree.MethodInvocationTree;
import com.sun.source.tree.MethodTree;
import com.sun.source.tree.NewArrayTree;
import com.sun.source.tree.NewClassTree;
import com.sun.source.tree.SynchronizedTree;
import com.sun.source.tree.ThrowTree;
import com.sun.source.tree.Tree;
import com.sun.source.tree.TryTree;
import com.sun.source.tree.TypeCastTree;
import com.sun.source.tree.UnaryTree;
import com.sun.source.tree.VariableTree;
import com.sun.source.tree.WhileLoopTree;
import com.sun.source.util.JavacTask;
import com.sun.source.util.TreeScanner;
import java.io.File;
import java.io.IOException;
import java.util.HashMap;
import java.util.List;
import java.util.Map;
import java.util.Set;
import java.util.TreeSet;
import javax.lang.model.element.Modifier;
import javax.tools.JavaCompiler;
import javax.tools.StandardJavaFileManager;
import javax.tools.ToolProvider;

/**
 * The rules of LANGUAGE.md that can be read off the program's text. Rule 1 is FaceTest's for the
 * most part; rule 7 is a matter of answers, which the other tests ask for. Where a rule leaves
 * several ways the program's own is asked for: arrays in fields' initialisers, and counting loops.
 */
public final class LanguageTest {
    private static final File PROGRAM = new File("src/main/java/TreeSlack.java");
    private static final Set<String> NUMBERS = Set.of("int", "long", "short", "byte", "char", "boolean");

    private final Map<String, Set<String>> calls = new HashMap<>();
    private final Set<String> constants = new TreeSet<>();
    private int fields = 0;

    public static void main(String[] args) throws IOException {
        JavaCompiler compiler = ToolProvider.getSystemJavaCompiler();
        try (StandardJavaFileManager files = compiler.getStandardFileManager(null, null, null)) {
            JavacTask task = (JavacTask) compiler.getTask(
                null, files, null, null, null, files.getJavaFileObjects(PROGRAM));
            for (CompilationUnitTree unit : task.parse()) {
                new LanguageTest().check(unit);
            }
        }
        Checks.finish();
    }

    private static void rule(int number, String what, boolean kept) {
        Checks.due("rule " + number + ": " + what, kept, true);
    }

    private void check(CompilationUnitTree unit) {
        rule(1, "no package line", unit.getPackageName() == null);
        rule(3, "nothing imported", unit.getImports().isEmpty());
        rule(1, "one class in the file", unit.getTypeDecls().size() == 1);
        ClassTree program = (ClassTree) unit.getTypeDecls().get(0);
        boolean alone = program.getExtendsClause() == null && program.getImplementsClause().isEmpty();
        rule(3, "no other class extended or implemented", alone);
        for (Tree member : program.getMembers()) {
            if (member instanceof VariableTree field) {
                checkField(field);
            } else if (member instanceof MethodTree method) {
                checkMethod(method);
            } else {
                rule(5, "no initialiser and no nested class: " + member, false);
            }
        }
        rule(10, "at most forty fields beside the constants", fields <= 40);
        checkCalls();
        program.accept(new Statements(), null);
    }

    private void checkField(VariableTree field) {
        Set<Modifier> modifiers = field.getModifiers().getFlags();
        String type = field.getType().toString();
        if (modifiers.contains(Modifier.STATIC)) {
            rule(5, "a constant: " + field, modifiers.contains(Modifier.FINAL));
            rule(5, "of int or long: " + field, type.equals("int") || type.equals("long"));
            constants.add(field.getName().toString());
        } else {
            fields++;
        }
        Set<String> called = new TreeSet<>();
        field.accept(new Called(), called);
        rule(5, "a value that no call makes: " + field, called.isEmpty());
        if (type.endsWith("[]")) {
            rule(4, "never assigned again: " + field, modifiers.contains(Modifier.FINAL));
            rule(4, "made at the start: " + field, field.getInitializer() instanceof NewArrayTree);
        }
    }

    private void checkMethod(MethodTree method) {
        String name = method.getName().toString();
        if (method.getReturnType() != null) {
            String type = method.getReturnType().toString();
            rule(4, name + " answers a number", type.equals("void") || NUMBERS.contains(type));
        }
        rule(10, name + " takes at most seven parameters", method.getParameters().size() <= 7);
        rule(10, name + " is short", method.toString().lines().count() <= 60);
        method.accept(new NoNewArrays(), null);
        rule(8, "one method named " + name, !calls.containsKey(name));
        Set<String> called = new TreeSet<>();
        method.getBody().accept(new Called(), called);
        calls.put(name, called);
    }

    private void checkCalls() {
        for (String name : calls.keySet()) {
            for (String called : calls.get(name)) {
                boolean own = called.equals("super") && name.equals("<init>") || calls.containsKey(called);
                rule(3, name + " calls the program's own " + called, own);
            }
            rule(10, name + " calls at most six deep, never itself", depth(name, 1) <= 6);
        }
    }

    /** A call that comes back to itself would go on for ever, so the search ends behind the bound. */
    private int depth(String name, int above) {
        int deepest = above;
        if (above <= 6) {
            for (String called : calls.getOrDefault(name, Set.of())) {
                deepest = Math.max(deepest, depth(called, above + 1));
            }
        }
        return deepest;
    }

    private static final class Called extends TreeScanner<Void, Set<String>> {
        @Override
        public Void visitMethodInvocation(MethodInvocationTree call, Set<String> called) {
            called.add(call.getMethodSelect().toString());
            return super.visitMethodInvocation(call, called);
        }
    }

    private static final class NoNewArrays extends TreeScanner<Void, Void> {
        @Override
        public Void visitNewArray(NewArrayTree made, Void none) {
            rule(4, "no array made in a method: " + made, false);
            return null;
        }
    }

    private static final class NoCalls extends TreeScanner<Void, Void> {
        @Override
        public Void visitMethodInvocation(MethodInvocationTree call, Void none) {
            rule(10, "a call inside the arguments of another one: " + call, false);
            return null;
        }
    }

    /** What a loop's body does to the loop's counter. */
    private static final class NoChange extends TreeScanner<Void, String> {
        @Override
        public Void visitAssignment(AssignmentTree change, String counter) {
            unchanged(change.getVariable(), counter);
            return super.visitAssignment(change, counter);
        }

        @Override
        public Void visitCompoundAssignment(CompoundAssignmentTree change, String counter) {
            unchanged(change.getVariable(), counter);
            return super.visitCompoundAssignment(change, counter);
        }

        @Override
        public Void visitUnary(UnaryTree change, String counter) {
            boolean steps = change.toString().contains("++") || change.toString().contains("--");
            if (steps) {
                unchanged(change.getExpression(), counter);
            }
            return super.visitUnary(change, counter);
        }

        private static void unchanged(ExpressionTree changed, String counter) {
            rule(8, "a loop leaves its counter " + counter, !changed.toString().equals(counter));
        }
    }

    private final class Statements extends TreeScanner<Void, Void> {
        @Override
        public Void visitVariable(VariableTree variable, Void none) {
            String type = variable.getType().toString();
            String element = type.endsWith("[]") ? type.substring(0, type.length() - 2) : type;
            rule(2, "a number or an array of numbers: " + variable, NUMBERS.contains(element));
            return super.visitVariable(variable, none);
        }

        @Override
        public Void visitLiteral(LiteralTree literal, Void none) {
            switch (literal.getKind()) {
                case INT_LITERAL, LONG_LITERAL, CHAR_LITERAL, BOOLEAN_LITERAL -> { }
                default -> rule(2, "neither text nor fraction nor null: " + literal, false);
            }
            return null;
        }

        @Override
        public Void visitMemberSelect(MemberSelectTree select, Void none) {
            boolean length = select.getIdentifier().contentEquals("length");
            rule(3, "nothing of another class: " + select, length || select.toString().startsWith("this."));
            return super.visitMemberSelect(select, none);
        }

        @Override
        public Void visitMethodInvocation(MethodInvocationTree call, Void none) {
            for (ExpressionTree argument : call.getArguments()) {
                argument.accept(new NoCalls(), null);
            }
            return super.visitMethodInvocation(call, none);
        }

        @Override
        public Void visitNewArray(NewArrayTree made, Void none) {
            List<? extends ExpressionTree> lengths = made.getDimensions();
            boolean fixed = lengths.size() == 1
                && (lengths.get(0) instanceof LiteralTree || constants.contains(lengths.get(0).toString()));
            rule(4, "of a fixed length: " + made, fixed);
            return super.visitNewArray(made, none);
        }

        @Override
        public Void visitForLoop(ForLoopTree loop, Void none) {
            boolean bounded = loop.getInitializer().size() == 1
                && loop.getInitializer().get(0) instanceof VariableTree
                && loop.getCondition() instanceof BinaryTree
                && loop.getUpdate().size() == 1;
            rule(8, "a counting loop: " + loop, bounded);
            if (bounded) {
                checkCounter(loop);
            }
            return super.visitForLoop(loop, none);
        }

        private void checkCounter(ForLoopTree loop) {
            String counter = ((VariableTree) loop.getInitializer().get(0)).getName().toString();
            BinaryTree end = (BinaryTree) loop.getCondition();
            ExpressionStatementTree step = loop.getUpdate().get(0);
            boolean below = end.getKind() == Tree.Kind.LESS_THAN || end.getKind() == Tree.Kind.LESS_THAN_EQUAL;
            rule(8, "up to a bound: " + end, below && end.getLeftOperand().toString().equals(counter));
            rule(8, "that is a constant: " + end, constants.contains(end.getRightOperand().toString()));
            rule(8, "one by one: " + step, step.getExpression().toString().equals(counter + "++"));
            loop.getStatement().accept(new NoChange(), counter);
        }

        @Override
        public Void visitWhileLoop(WhileLoopTree loop, Void none) {
            return refused(8, loop);
        }

        @Override
        public Void visitDoWhileLoop(DoWhileLoopTree loop, Void none) {
            return refused(8, loop);
        }

        @Override
        public Void visitEnhancedForLoop(EnhancedForLoopTree loop, Void none) {
            return refused(8, loop);
        }

        @Override
        public Void visitTypeCast(TypeCastTree cast, Void none) {
            rule(6, "a cast between numbers: " + cast, NUMBERS.contains(cast.getType().toString()));
            return super.visitTypeCast(cast, none);
        }

        @Override
        public Void visitNewClass(NewClassTree made, Void none) {
            return refused(4, made);
        }

        @Override
        public Void visitThrow(ThrowTree tree, Void none) {
            return refused(6, tree);
        }

        @Override
        public Void visitTry(TryTree tree, Void none) {
            return refused(6, tree);
        }

        @Override
        public Void visitSynchronized(SynchronizedTree tree, Void none) {
            return refused(6, tree);
        }

        @Override
        public Void visitAssert(AssertTree tree, Void none) {
            return refused(6, tree);
        }

        @Override
        public Void visitInstanceOf(InstanceOfTree tree, Void none) {
            return refused(6, tree);
        }

        @Override
        public Void visitLambdaExpression(LambdaExpressionTree tree, Void none) {
            return refused(6, tree);
        }

        @Override
        public Void visitMemberReference(MemberReferenceTree tree, Void none) {
            return refused(6, tree);
        }

        @Override
        public Void visitBlock(BlockTree block, Void none) {
            rule(5, "no static initialiser", !block.isStatic());
            return super.visitBlock(block, none);
        }

        private Void refused(int number, Tree tree) {
            rule(number, "not in the program's Java: " + tree, false);
            return null;
        }
    }
}
