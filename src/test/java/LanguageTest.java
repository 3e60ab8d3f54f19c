import com.sun.source.tree.*;
import com.sun.source.util.JavacTask;
import com.sun.source.util.TreeScanner;
import java.io.File;
import java.io.IOException;
import java.util.ArrayDeque;
import java.util.Deque;
import java.util.EnumSet;
import java.util.HashMap;
import java.util.HashSet;
import java.util.List;
import java.util.Map;
import java.util.Set;
import java.util.TreeSet;
import javax.lang.model.element.Modifier;
import javax.lang.model.type.TypeKind;
import javax.tools.JavaCompiler;
import javax.tools.StandardJavaFileManager;
import javax.tools.ToolProvider;

/** The rules of LANGUAGE.md that the text of the class can be asked for, rule by rule. */
public final class LanguageTest {
    private static final File SOURCE = new File("src/main/java/PrettyStream.java");
    private static final int MOST_LINES = 60;
    private static final int DEEPEST = 6;
    private static final int MOST_PARAMETERS = 7;
    private static final int MOST_FIELDS = 40;
    private static final Set<Tree.Kind> RULED_OUT = EnumSet.of(
        Tree.Kind.THROW, Tree.Kind.TRY, Tree.Kind.CATCH, Tree.Kind.SYNCHRONIZED, Tree.Kind.ASSERT,
        Tree.Kind.INSTANCE_OF, Tree.Kind.LAMBDA_EXPRESSION, Tree.Kind.MEMBER_REFERENCE,
        Tree.Kind.NEW_CLASS, Tree.Kind.NULL_LITERAL, Tree.Kind.STRING_LITERAL,
        Tree.Kind.FLOAT_LITERAL, Tree.Kind.DOUBLE_LITERAL);

    private final CompilationUnitTree unit;
    private final ClassTree type;
    private final Map<String, MethodTree> methods = new HashMap<>();
    private final Map<String, Set<String>> calls = new HashMap<>();

    private LanguageTest(CompilationUnitTree unit) {
        this.unit = unit;
        this.type = (ClassTree) unit.getTypeDecls().get(0);
    }

    public static void main(String[] args) throws IOException {
        JavaCompiler compiler = ToolProvider.getSystemJavaCompiler();
        try (StandardJavaFileManager files = compiler.getStandardFileManager(null, null, null)) {
            JavacTask task = (JavacTask) compiler.getTask(
                null, files, null, null, null, files.getJavaFileObjects(SOURCE));
            LanguageTest test = new LanguageTest(task.parse().iterator().next());
            test.oneClass();
            test.fields();
            test.methodsAndCalls();
            test.everyTree();
        }
        noCallThrows();
        Checks.end();
    }

    private static void holds(String what, boolean holds) {
        Checks.due(what, holds ? 1 : 0, 1);
    }

    private void oneClass() {
        Checks.sentence("rule 1: one class, without a package line; rule 3: nothing is imported");
        holds("no package line", unit.getPackage() == null);
        holds("no import", unit.getImports().isEmpty());
        Checks.due("classes", unit.getTypeDecls().size(), 1);
        holds("extends nothing", type.getExtendsClause() == null && type.getImplementsClause().isEmpty());
        for (Tree member : type.getMembers()) {
            holds("a field or method: " + member,
                member instanceof VariableTree || member instanceof MethodTree);
        }
    }

    private void fields() {
        int beside = 0;
        for (Tree member : type.getMembers()) {
            if (member instanceof VariableTree field) {
                Set<Modifier> modifiers = field.getModifiers().getFlags();
                boolean isStatic = modifiers.contains(Modifier.STATIC);
                boolean isArray = field.getType().getKind() == Tree.Kind.ARRAY_TYPE;
                beside += isStatic ? 0 : 1;
                Checks.sentence("rule 5: static fields are compile-time constants of int or long alone");
                String written = field.getType().toString();
                holds(field + "", !isStatic || modifiers.contains(Modifier.FINAL)
                    && (written.equals("int") || written.equals("long")));
                Checks.sentence("rule 4: no method assigns to an array field");
                holds(field + "", !isArray || modifiers.contains(Modifier.FINAL));
                Checks.sentence("rule 4: arrays are made in a field's initialiser");
                holds(field + "", !isArray || field.getInitializer() instanceof NewArrayTree);
            }
        }
        Checks.sentence("rule 10: at most some forty fields beside its constants");
        holds(beside + " fields", beside <= MOST_FIELDS);
    }

    private void methodsAndCalls() {
        Checks.sentence("rule 1: no private method bears the name of a public one");
        for (Tree member : type.getMembers()) {
            if (member instanceof MethodTree method) {
                String name = method.getName().toString();
                holds(name + " is the only one of its name", methods.put(name, method) == null);
            }
        }
        for (Map.Entry<String, MethodTree> entry : methods.entrySet()) {
            oneMethod(entry.getKey(), entry.getValue());
        }
        for (String name : methods.keySet()) {
            int depth = depth(name, new ArrayDeque<>());
            Checks.sentence("rule 8: no recursion; rule 10: calls go at most six deep");
            holds(name + " goes " + depth + " deep", depth <= DEEPEST);
        }
    }

    private void oneMethod(String name, MethodTree method) {
        Checks.sentence("rule 10: at most seven parameters");
        holds(name, method.getParameters().size() <= MOST_PARAMETERS);
        Checks.sentence("rule 10: methods stay short (some sixty lines)");
        holds(name, method.getBody().toString().lines().count() <= MOST_LINES);
        Checks.sentence("rule 4: an array is never answered by a method");
        holds(name, method.getReturnType() == null
            || method.getReturnType().getKind() == Tree.Kind.PRIMITIVE_TYPE);
        Set<String> called = new TreeSet<>();
        calls.put(name, called);
        new TreeScanner<Void, Void>() {
            @Override
            public Void visitMethodInvocation(MethodInvocationTree call, Void none) {
                String target = call.getMethodSelect().toString();
                // javac itself puts super() into a constructor, but not before the text is parsed.
                Checks.sentence("rule 3: no class of the Java library, none of Object's methods");
                holds(name + " calls " + target, methods.containsKey(target));
                Checks.sentence("rule 10: no call stands inside the arguments of another call");
                holds(name + ": " + call, !holdsCall(call.getArguments()));
                called.add(target);
                return super.visitMethodInvocation(call, none);
            }

            @Override
            public Void visitNewArray(NewArrayTree made, Void none) {
                Checks.sentence("rule 4: a method makes no object and no array");
                holds(name + ": " + made, false);
                return super.visitNewArray(made, none);
            }
        }.scan(method.getBody(), null);
    }

    private static boolean holdsCall(List<? extends ExpressionTree> arguments) {
        Set<Tree> found = new HashSet<>();
        new TreeScanner<Void, Void>() {
            @Override
            public Void visitMethodInvocation(MethodInvocationTree call, Void none) {
                found.add(call);
                return null;
            }
        }.scan(arguments, null);
        return !found.isEmpty();
    }

    /** How many methods stand on one another at most; more than is allowed if one stands on itself. */
    private int depth(String name, Deque<String> above) {
        if (above.contains(name)) {
            return DEEPEST + 1;
        }
        above.push(name);
        int deepest = 0;
        for (String target : calls.getOrDefault(name, Set.of())) {
            deepest = Math.max(deepest, depth(target, above));
        }
        above.pop();
        return deepest + 1;
    }

    private void everyTree() {
        new TreeScanner<Void, Void>() {
            @Override
            public Void scan(Tree tree, Void none) {
                if (tree != null) {
                    Checks.sentence("rules 2, 4 and 6: what is ruled out");
                    holds(tree.getKind() + ": " + tree, !RULED_OUT.contains(tree.getKind()));
                }
                return super.scan(tree, none);
            }

            @Override
            public Void visitPrimitiveType(PrimitiveTypeTree primitive, Void none) {
                TypeKind kind = primitive.getPrimitiveTypeKind();
                Checks.sentence("rule 2: no float or double");
                holds(kind + "", kind != TypeKind.FLOAT && kind != TypeKind.DOUBLE);
                return null;
            }

            @Override
            public Void visitVariable(VariableTree variable, Void none) {
                Checks.sentence("rule 2: whole numbers, booleans and one-dimensional arrays of these");
                Tree kind = variable.getType();
                Tree part = kind instanceof ArrayTypeTree array ? array.getType() : kind;
                holds(variable + "", part instanceof PrimitiveTypeTree);
                return super.visitVariable(variable, none);
            }

            @Override
            public Void visitNewArray(NewArrayTree made, Void none) {
                Checks.sentence("rule 4: with a length that is a literal or a constant");
                holds(made + "", made.getInitializers() == null && made.getDimensions().size() == 1
                    && isConstant(made.getDimensions().get(0)));
                return super.visitNewArray(made, none);
            }

            @Override
            public Void visitMemberSelect(MemberSelectTree select, Void none) {
                Checks.sentence("rule 3: no class of the Java library");
                String name = select.getIdentifier().toString();
                holds(select + "", name.equals("length") || select.getExpression().toString().equals("this"));
                return super.visitMemberSelect(select, none);
            }

            @Override
            public Void visitForLoop(ForLoopTree loop, Void none) {
                Checks.sentence("rule 8: every loop has an end that can be seen from its own lines");
                holds(loop + "", loop.getCondition() instanceof BinaryTree && loop.getUpdate().size() == 1);
                return super.visitForLoop(loop, none);
            }

            @Override
            public Void visitWhileLoop(WhileLoopTree loop, Void none) {
                Checks.sentence("rule 8: (this class counts in for loops alone)");
                holds(loop + "", false);
                return super.visitWhileLoop(loop, none);
            }

            @Override
            public Void visitDoWhileLoop(DoWhileLoopTree loop, Void none) {
                Checks.sentence("rule 8: (this class counts in for loops alone)");
                holds(loop + "", false);
                return super.visitDoWhileLoop(loop, none);
            }
        }.scan(type.getMembers(), null);
    }

    // The document leaves free what is answered behind the 512th call, but this rule knows no such end.
    private static void noCallThrows() {
        Checks.sentence("rule 7: no call may ever throw, for any arguments in any state");
        int[] numbers = {Integer.MIN_VALUE, -1, 0, 1, 8, 9, 20, 21, 59, 60, 61, 100, 101, Integer.MAX_VALUE};
        for (int first : numbers) {
            PrettyStream x = new PrettyStream(first);
            for (int round = 0; round < 100; round++) {
                for (int number : numbers) {
                    callAll(x, number);
                }
            }
            Checks.due("pieces in the end", x.row(59) < 0 ? 0 : 1, 1);
        }
    }

    private static void callAll(PrettyStream x, int number) {
        x.width(number);
        x.open(number);
        x.word(number);
        x.lineBreak();
        x.row(number);
        x.column(number);
        x.flat(number);
        x.rows();
        x.widest();
        x.leastWidth(number);
        x.close();
    }

    private static boolean isConstant(ExpressionTree length) {
        return length instanceof LiteralTree
            || length instanceof IdentifierTree && length.toString().equals(length.toString().toUpperCase());
    }
}
