import com.sun.source.tree.ArrayAccessTree;
import com.sun.source.tree.ArrayTypeTree;
import com.sun.source.tree.AssignmentTree;
import com.sun.source.tree.BinaryTree;
import com.sun.source.tree.ClassTree;
import com.sun.source.tree.CompilationUnitTree;
import com.sun.source.tree.ExpressionTree;
import com.sun.source.tree.ForLoopTree;
import com.sun.source.tree.IdentifierTree;
import com.sun.source.tree.LineMap;
import com.sun.source.tree.MethodInvocationTree;
import com.sun.source.tree.MethodTree;
import com.sun.source.tree.ModifiersTree;
import com.sun.source.tree.NewArrayTree;
import com.sun.source.tree.PrimitiveTypeTree;
import com.sun.source.tree.Tree;
import com.sun.source.tree.Tree.Kind;
import com.sun.source.tree.UnaryTree;
import com.sun.source.tree.VariableTree;
import com.sun.source.util.JavacTask;
import com.sun.source.util.SourcePositions;
import com.sun.source.util.TreeScanner;
import com.sun.source.util.Trees;
import java.io.File;
import java.util.EnumSet;
import java.util.HashMap;
import java.util.HashSet;
import java.util.Map;
import java.util.Set;
import javax.lang.model.element.Modifier;
import javax.lang.model.type.TypeKind;
import javax.tools.JavaCompiler;
import javax.tools.StandardJavaFileManager;
import javax.tools.ToolProvider;

/**
 * Reads the source of the class and looks at the rules of LANGUAGE.md that its form shows. It allows only what the
 * class needs, which is less than the rules leave: a new kind of expression is to be looked up there first.
 * Rule 7 (no call throws) can't be seen from the form; that a loop's bound stays where it is, isn't looked at.
 */
public final class LanguageTest {
    private static final File SOURCE = new File("src/main/java/ThresholdDiff.java");

    // With no dot but in a number, no name of the Java library can be written at all (rules 2, 3, 6 and 11).
    private static final Set<Kind> ALLOWED = EnumSet.of(
        Kind.CLASS, Kind.MODIFIERS, Kind.VARIABLE, Kind.METHOD, Kind.PRIMITIVE_TYPE, Kind.ARRAY_TYPE, Kind.NEW_ARRAY,
        Kind.BLOCK, Kind.IF, Kind.FOR_LOOP, Kind.RETURN, Kind.EXPRESSION_STATEMENT, Kind.PARENTHESIZED,
        Kind.METHOD_INVOCATION, Kind.IDENTIFIER, Kind.ARRAY_ACCESS, Kind.ASSIGNMENT, Kind.CONDITIONAL_EXPRESSION,
        Kind.INT_LITERAL, Kind.BOOLEAN_LITERAL, Kind.UNARY_MINUS, Kind.PLUS, Kind.MINUS, Kind.MULTIPLY,
        Kind.POSTFIX_INCREMENT, Kind.LOGICAL_COMPLEMENT, Kind.CONDITIONAL_AND, Kind.CONDITIONAL_OR,
        Kind.EQUAL_TO, Kind.NOT_EQUAL_TO, Kind.LESS_THAN, Kind.LESS_THAN_EQUAL, Kind.GREATER_THAN,
        Kind.GREATER_THAN_EQUAL);
    private static final Set<TypeKind> NUMBERS = EnumSet.of(
        TypeKind.INT, TypeKind.LONG, TypeKind.SHORT, TypeKind.BYTE, TypeKind.CHAR, TypeKind.BOOLEAN);
    private static final Set<Modifier> MODIFIERS = EnumSet.of(
        Modifier.PUBLIC, Modifier.PRIVATE, Modifier.STATIC, Modifier.FINAL);

    private final Map<String, Set<String>> calls = new HashMap<>();
    private final Set<String> arrayFields = new HashSet<>();
    private final Set<String> constants = new HashSet<>();
    private CompilationUnitTree file;
    private SourcePositions positions;

    public static void main(String[] args) throws Exception {
        new LanguageTest().look();
        Check.finish();
    }

    private void look() throws Exception {
        JavaCompiler compiler = ToolProvider.getSystemJavaCompiler();
        try (StandardJavaFileManager files = compiler.getStandardFileManager(null, null, null)) {
            JavacTask task = (JavacTask) compiler.getTask(
                null, files, null, null, null, files.getJavaFileObjects(SOURCE));
            file = task.parse().iterator().next();
            positions = Trees.instance(task).getSourcePositions();
        }
        Check.due("1: a package line", file.getPackage() != null, false);
        Check.due("3: imports", file.getImports().size(), 0);
        Check.due("1: classes", file.getTypeDecls().size(), 1);
        ClassTree type = (ClassTree) file.getTypeDecls().get(0);
        Check.due("1: the class extends another", type.getExtendsClause() != null, false);
        Check.due("1: interfaces", type.getImplementsClause().size(), 0);
        fields(type);
        for (Tree member : type.getMembers()) {
            if (member instanceof MethodTree method) {
                method(method);
            } else {
                Check.due(at(member) + "1, 5: a field or a method", member.getKind() == Kind.VARIABLE, true);
            }
        }
        type.accept(new Form(), null);
        for (String name : calls.keySet()) {
            Check.due("3: " + name + " calls only this class", calls.keySet().containsAll(calls.get(name)), true);
            Check.due("8, 10: " + name + " calls at most six deep, without recursion", depth(name, 6) <= 6, true);
        }
    }

    private void fields(ClassTree type) {
        int fields = 0;
        for (Tree member : type.getMembers()) {
            if (member instanceof VariableTree field) {
                boolean isStatic = field.getModifiers().getFlags().contains(Modifier.STATIC);
                boolean isFinal = field.getModifiers().getFlags().contains(Modifier.FINAL);
                fields += isStatic ? 0 : 1;
                if (isStatic) {
                    constants.add(field.getName().toString());
                } else if (field.getType().getKind() == Kind.ARRAY_TYPE) {
                    arrayFields.add(field.getName().toString());
                    Check.due(at(field) + "4: an array field is final", isFinal, true);
                    array(field.getInitializer());
                }
            }
        }
        Check.due("10: at most 40 fields", fields <= 40, true);
    }

    private void array(ExpressionTree made) {
        boolean isNew = made instanceof NewArrayTree n && n.getInitializers() == null && n.getDimensions().size() == 1;
        Check.due("4: an array is made in its field's initialiser, by a length", isNew, true);
        if (isNew) {
            ExpressionTree length = ((NewArrayTree) made).getDimensions().get(0);
            boolean constant = length.getKind() == Kind.INT_LITERAL || constants.contains(length.toString());
            Check.due(at(made) + "4: its length is a literal or a constant", constant, true);
        }
    }

    private void method(MethodTree method) {
        String name = method.getName().toString();
        LineMap lines = file.getLineMap();
        long first = lines.getLineNumber(positions.getStartPosition(file, method));
        long last = lines.getLineNumber(positions.getEndPosition(file, method));
        Check.due(at(method) + "10: at most sixty lines", last - first < 60, true);
        boolean answersArray = method.getReturnType() != null && method.getReturnType().getKind() == Kind.ARRAY_TYPE;
        Check.due(at(method) + "4: answers an array", answersArray, false);
        Check.due(at(method) + "6: throws", method.getThrows().size(), 0);
        Check.due(at(method) + "one method of this name", calls.containsKey(name), false);
        Set<String> called = new HashSet<>();
        calls.put(name, called);
        method.getBody().accept(new Body(called), null);
    }

    /** How many methods deep a call of this one goes, itself counted; past the limit, some number above it. */
    private int depth(String name, int limit) {
        int deepest = 0;
        for (String called : calls.getOrDefault(name, Set.of())) {
            deepest = Math.max(deepest, limit == 0 ? 1 : depth(called, limit - 1));
        }
        return 1 + deepest;
    }

    private String at(Tree tree) {
        return "line " + file.getLineMap().getLineNumber(positions.getStartPosition(file, tree)) + ": ";
    }

    /** What the whole class is written with. */
    private final class Form extends TreeScanner<Void, Void> {
        @Override
        public Void scan(Tree tree, Void none) {
            if (tree != null) {
                Check.due(at(tree) + tree.getKind() + " is allowed", ALLOWED.contains(tree.getKind()), true);
            }
            return super.scan(tree, none);
        }

        @Override
        public Void visitVariable(VariableTree tree, Void none) {
            Check.due(at(tree) + "2: " + tree.getType() + " " + tree.getName(), isPlain(tree.getType()), true);
            return super.visitVariable(tree, none);
        }

        @Override
        public Void visitMethod(MethodTree tree, Void none) {
            Tree answer = tree.getReturnType();
            Check.due(at(tree) + "2: answers " + answer, answer == null || isPlain(answer), true);
            return super.visitMethod(tree, none);
        }

        private boolean isPlain(Tree type) {
            Tree element = type instanceof ArrayTypeTree array ? array.getType() : type;
            return element instanceof PrimitiveTypeTree;
        }

        @Override
        public Void visitModifiers(ModifiersTree tree, Void none) {
            Check.due(at(tree) + "1, 6: only plain modifiers", MODIFIERS.containsAll(tree.getFlags()), true);
            return super.visitModifiers(tree, none);
        }

        @Override
        public Void visitPrimitiveType(PrimitiveTypeTree tree, Void none) {
            TypeKind kind = tree.getPrimitiveTypeKind();
            Check.due(at(tree) + "2: " + kind, NUMBERS.contains(kind) || kind == TypeKind.VOID, true);
            return null;
        }
    }

    /** What a method does: which methods it calls, and that it handles arrays only by their places. */
    private final class Body extends TreeScanner<Void, Void> {
        private final Set<String> called;

        Body(Set<String> called) {
            this.called = called;
        }

        @Override
        public Void visitMethodInvocation(MethodInvocationTree tree, Void none) {
            called.add(tree.getMethodSelect().toString());
            for (ExpressionTree argument : tree.getArguments()) {
                argument.accept(new NoCall(), null);
            }
            return scan(tree.getArguments(), none);
        }

        @Override
        public Void visitForLoop(ForLoopTree tree, Void none) {
            boolean makes = tree.getInitializer().size() == 1 && tree.getInitializer().get(0) instanceof VariableTree;
            Check.due(at(tree) + "8: the loop makes its counter", makes, true);
            if (makes) {
                counter(tree, ((VariableTree) tree.getInitializer().get(0)).getName().toString());
            }
            return super.visitForLoop(tree, none);
        }

        private void counter(ForLoopTree tree, String name) {
            boolean bound = tree.getCondition() instanceof BinaryTree c && c.getKind() == Kind.LESS_THAN
                && c.getLeftOperand().toString().equals(name);
            Check.due(at(tree) + "8: the counter is held against a bound", bound, true);
            Check.due(at(tree) + "8: and grows by one", tree.getUpdate().toString().equals(name + "++;"), true);
            tree.getStatement().accept(new NoChange(name), null);
        }

        @Override
        public Void visitNewArray(NewArrayTree tree, Void none) {
            Check.due(at(tree) + "4: a method makes an array", true, false);
            return null;
        }

        @Override
        public Void visitArrayAccess(ArrayAccessTree tree, Void none) {
            boolean field = arrayFields.contains(tree.getExpression().toString());
            Check.due(at(tree) + "4: a place of an array field", field, true);
            return scan(tree.getIndex(), none);
        }

        @Override
        public Void visitIdentifier(IdentifierTree tree, Void none) {
            boolean whole = arrayFields.contains(tree.getName().toString());
            Check.due(at(tree) + "4: " + tree + " is used as a whole", whole, false);
            return null;
        }
    }

    private final class NoCall extends TreeScanner<Void, Void> {
        @Override
        public Void visitMethodInvocation(MethodInvocationTree tree, Void none) {
            Check.due(at(tree) + "10: a call inside the arguments of another", true, false);
            return null;
        }
    }

    private final class NoChange extends TreeScanner<Void, Void> {
        private final String counter;

        NoChange(String counter) {
            this.counter = counter;
        }

        @Override
        public Void visitAssignment(AssignmentTree tree, Void none) {
            Check.due(at(tree) + "8: the loop's body sets its counter", isCounter(tree.getVariable()), false);
            return super.visitAssignment(tree, none);
        }

        @Override
        public Void visitUnary(UnaryTree tree, Void none) {
            boolean counts = tree.getKind() == Kind.POSTFIX_INCREMENT && isCounter(tree.getExpression());
            Check.due(at(tree) + "8: the loop's body moves its counter", counts, false);
            return super.visitUnary(tree, none);
        }

        private boolean isCounter(ExpressionTree changed) {
            return changed.toString().equals(counter);
        }
    }
}
