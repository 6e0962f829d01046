import com.sun.source.tree.ArrayTypeTree;
import com.sun.source.tree.BinaryTree;
import com.sun.source.tree.BlockTree;
import com.sun.source.tree.ClassTree;
import com.sun.source.tree.CompilationUnitTree;
import com.sun.source.tree.DoWhileLoopTree;
import com.sun.source.tree.EnhancedForLoopTree;
import com.sun.source.tree.ExpressionTree;
import com.sun.source.tree.ForLoopTree;
import com.sun.source.tree.IdentifierTree;
import com.sun.source.tree.LiteralTree;
import com.sun.source.tree.MemberSelectTree;
import com.sun.source.tree.MethodInvocationTree;
import com.sun.source.tree.MethodTree;
import com.sun.source.tree.NewArrayTree;
import com.sun.source.tree.PrimitiveTypeTree;
import com.sun.source.tree.Tree;
import com.sun.source.tree.UnaryTree;
import com.sun.source.tree.VariableTree;
import com.sun.source.tree.WhileLoopTree;
import com.sun.source.util.JavacTask;
import com.sun.source.util.SourcePositions;
import com.sun.source.util.TreeScanner;
import com.sun.source.util.Trees;
import java.io.IOException;
import java.io.UncheckedIOException;
import java.nio.file.Path;
import java.util.HashSet;
import java.util.Map;
import java.util.Set;
import java.util.TreeMap;
import java.util.TreeSet;
import javax.lang.model.element.Modifier;
import javax.lang.model.type.TypeKind;
import javax.tools.JavaCompiler;
import javax.tools.StandardJavaFileManager;
import javax.tools.ToolProvider;

/**
 * LANGUAGE.md against the text of the class, as the compiler reads it. FaceTest has what the compiled class shows; that
 * no index or divisor is wrong (rule 7) is left to the tests that call the class.
 */
public final class LanguageTest {
    private static final Check CHECK = new Check("the language");
    private static final int MOST_LINES = 60;
    private static final int MOST_CALLS_DEEP = 6;
    private static final Set<Tree.Kind> FORBIDDEN = Set.of(Tree.Kind.THROW, Tree.Kind.TRY, Tree.Kind.CATCH,
        Tree.Kind.SYNCHRONIZED, Tree.Kind.ASSERT, Tree.Kind.INSTANCE_OF, Tree.Kind.LAMBDA_EXPRESSION,
        Tree.Kind.MEMBER_REFERENCE, Tree.Kind.NEW_CLASS, Tree.Kind.NULL_LITERAL, Tree.Kind.STRING_LITERAL,
        Tree.Kind.FLOAT_LITERAL, Tree.Kind.DOUBLE_LITERAL, Tree.Kind.ANNOTATION, Tree.Kind.PARAMETERIZED_TYPE,
        Tree.Kind.YIELD);

    private final CompilationUnitTree unit;
    private final SourcePositions positions;
    private final ClassTree type;
    private final Map<String, MethodTree> methods = new TreeMap<>();
    private final Set<String> constants = new HashSet<>();
    private final Set<String> fields = new HashSet<>();

    private LanguageTest(CompilationUnitTree unit, SourcePositions positions) {
        this.unit = unit;
        this.positions = positions;
        type = (ClassTree) unit.getTypeDecls().get(0);
        for (Tree member : type.getMembers()) {
            if (member instanceof MethodTree) {
                MethodTree method = (MethodTree) member;
                methods.put(method.getName().toString(), method);
            } else if (member instanceof VariableTree) {
                VariableTree field = (VariableTree) member;
                fields.add(field.getName().toString());
                if (isStatic(field)) {
                    constants.add(field.getName().toString());
                }
            }
        }
    }

    public static void main(String[] args) {
        LanguageTest test = read(Path.of("src/main/java/EpochReclaim.java"));
        CHECK.holds("1: One class [one file, without a package line and imports, and nothing nested]", test::oneClass);
        CHECK.holds("2: Types: int, long, short, byte, char, boolean, and one-dimensional arrays of these.",
            test::types);
        CHECK.holds("3: No class of the Java library", test::noLibrary);
        CHECK.holds("4: Arrays are made in a field's initialiser", test::arrays);
        CHECK.holds("5: Static fields are compile-time constants of int or long alone.", test::staticFields);
        CHECK.holds("6: No throw, try, catch, synchronized, assert, instanceof, lambda, method reference or cast of a "
            + "reference.", test::nothingForbidden);
        CHECK.holds("8: No recursion; 10: calls go at most six deep", test::callsGoDown);
        CHECK.holds("8: Every loop has an end that can be seen from its own lines (a counter against a bound).",
            test::loops);
        CHECK.holds("10: no call stands inside the arguments of another call.", test::noCallInArguments);
        CHECK.holds("10: Methods stay short (some sixty lines)", test::methodsAreShort);
        CHECK.end();
    }

    private static LanguageTest read(Path file) {
        JavaCompiler compiler = ToolProvider.getSystemJavaCompiler();
        try (StandardJavaFileManager manager = compiler.getStandardFileManager(null, null, null)) {
            JavacTask task = (JavacTask) compiler.getTask(null, manager, null, null, null,
                manager.getJavaFileObjects(file));
            return new LanguageTest(task.parse().iterator().next(), Trees.instance(task).getSourcePositions());
        } catch (IOException failed) {
            throw new UncheckedIOException(failed);
        }
    }

    private void wrong(Tree where, String what) {
        CHECK.fail("line " + line(positions.getStartPosition(unit, where)) + ": " + what);
    }

    private long line(long position) {
        return unit.getLineMap().getLineNumber(position);
    }

    private static boolean isStatic(VariableTree field) {
        return field.getModifiers().getFlags().contains(Modifier.STATIC);
    }

    /** Calls check for every tree of the class. */
    private static void forEach(Tree root, java.util.function.Consumer<Tree> check) {
        new TreeScanner<Void, Void>() {
            @Override
            public Void scan(Tree tree, Void nothing) {
                if (tree != null) {
                    check.accept(tree);
                }
                return super.scan(tree, nothing);
            }
        }.scan(root, null);
    }

    private void oneClass() {
        CHECK.same("a package line", unit.getPackage() != null, false);
        CHECK.same("imports", unit.getImports().size(), 0);
        CHECK.same("types in the file", unit.getTypeDecls().size(), 1);
        forEach(type, tree -> {
            if (tree instanceof ClassTree && tree != type) {
                wrong(tree, "a class inside the class");
            }
        });
    }

    private void types() {
        forEach(type, tree -> {
            if (tree instanceof VariableTree) {
                Tree of = ((VariableTree) tree).getType();
                checkPrimitive(tree, of instanceof ArrayTypeTree ? ((ArrayTypeTree) of).getType() : of, false);
            } else if (tree instanceof MethodTree && ((MethodTree) tree).getReturnType() != null) {
                checkPrimitive(tree, ((MethodTree) tree).getReturnType(), true);
            }
        });
    }

    private void checkPrimitive(Tree where, Tree of, boolean voidToo) {
        TypeKind kind = of instanceof PrimitiveTypeTree ? ((PrimitiveTypeTree) of).getPrimitiveTypeKind() : null;
        if (kind == null || kind == TypeKind.FLOAT || kind == TypeKind.DOUBLE || kind == TypeKind.VOID && !voidToo) {
            wrong(where, "the type " + of);
        }
    }

    private void noLibrary() {
        forEach(type, tree -> {
            if (tree instanceof MemberSelectTree && !tree.toString().matches("this\\.\\w+|\\w+\\.length")) {
                wrong(tree, "something of another class: " + tree);
            } else if (tree instanceof MethodInvocationTree) {
                String called = ((MethodInvocationTree) tree).getMethodSelect().toString();
                if (!methods.containsKey(called) && !called.equals("super")) {
                    wrong(tree, "a call of something else than the class's own methods: " + called);
                }
            }
        });
    }

    private void arrays() {
        Set<Tree> initialisers = new HashSet<>();
        for (Tree member : type.getMembers()) {
            if (member instanceof VariableTree && ((VariableTree) member).getType() instanceof ArrayTypeTree) {
                VariableTree field = (VariableTree) member;
                initialisers.add(field.getInitializer());
                CHECK.same(field.getName() + " is final",
                    field.getModifiers().getFlags().contains(Modifier.FINAL), true);
                CHECK.same(field.getName() + " is static", isStatic(field), false);
            }
        }
        forEach(type, tree -> {
            if (tree instanceof NewArrayTree) {
                NewArrayTree made = (NewArrayTree) tree;
                if (!initialisers.contains(made) || made.getDimensions().size() != 1
                    || !isConstant(made.getDimensions().get(0))) {
                    wrong(tree, "an array made otherwise than with a constant length for a field: " + tree);
                }
            }
        });
    }

    private boolean isConstant(ExpressionTree expression) {
        if (expression instanceof UnaryTree) {
            return isConstant(((UnaryTree) expression).getExpression());
        }
        if (expression instanceof BinaryTree) {
            BinaryTree both = (BinaryTree) expression;
            return isConstant(both.getLeftOperand()) && isConstant(both.getRightOperand());
        }
        return expression instanceof LiteralTree
            || expression instanceof IdentifierTree && constants.contains(expression.toString());
    }

    private void staticFields() {
        for (Tree member : type.getMembers()) {
            if (member instanceof BlockTree) {
                wrong(member, "an initialiser block");
            } else if (member instanceof VariableTree && isStatic((VariableTree) member)) {
                VariableTree field = (VariableTree) member;
                if (!field.getModifiers().getFlags().contains(Modifier.FINAL)
                    || !field.getType().toString().matches("int|long") || !isConstant(field.getInitializer())) {
                    wrong(field, "a static field that is no constant: " + field);
                }
            }
        }
    }

    private void nothingForbidden() {
        forEach(type, tree -> {
            if (FORBIDDEN.contains(tree.getKind())) {
                wrong(tree, tree.getKind() + ": " + tree);
            }
        });
    }

    private void callsGoDown() {
        for (String name : methods.keySet()) {
            int deep = depth(name, new TreeSet<>());
            CHECK.same(name + " calls at most six deep", deep <= MOST_CALLS_DEEP, true);
        }
    }

    private int depth(String name, Set<String> callers) {
        if (!callers.add(name)) {
            wrong(methods.get(name), name + " calls itself, through " + callers);
            return 0;
        }
        int[] deepest = {0};
        forEach(methods.get(name), tree -> {
            if (tree instanceof MethodInvocationTree) {
                String called = ((MethodInvocationTree) tree).getMethodSelect().toString();
                if (methods.containsKey(called)) {
                    deepest[0] = Math.max(deepest[0], depth(called, callers));
                }
            }
        });
        callers.remove(name);
        return 1 + deepest[0];
    }

    private void loops() {
        forEach(type, tree -> {
            if (tree instanceof ForLoopTree) {
                ForLoopTree loop = (ForLoopTree) tree;
                checkLoop(tree, loop.getCondition(), loop.getUpdate());
            } else if (tree instanceof WhileLoopTree) {
                WhileLoopTree loop = (WhileLoopTree) tree;
                checkLoop(tree, loop.getCondition(), loop.getStatement());
            } else if (tree instanceof DoWhileLoopTree || tree instanceof EnhancedForLoopTree) {
                wrong(tree, "a loop of another form than for and while with a counter");
            }
        });
    }

    /** The condition has to hold 'counter < bound', alone or before '&&', and the counter has to go up in the loop. */
    private void checkLoop(Tree loop, ExpressionTree condition, Object counting) {
        String text = String.valueOf(condition).replaceAll("^\\(|\\)$", "");
        String counter = text.matches("\\w+ < .*") ? text.substring(0, text.indexOf(' ')) : "";
        boolean ends = !counter.isEmpty() && !fields.contains(counter) && !text.contains("||")
            && counting.toString().contains(counter + "++");
        if (!ends) {
            wrong(loop, "a loop whose end is not seen: " + condition);
        }
    }

    private void noCallInArguments() {
        forEach(type, tree -> {
            if (tree instanceof MethodInvocationTree) {
                for (ExpressionTree argument : ((MethodInvocationTree) tree).getArguments()) {
                    forEach(argument, inner -> {
                        if (inner instanceof MethodInvocationTree) {
                            wrong(inner, "a call inside the arguments of another: " + tree);
                        }
                    });
                }
            }
        });
    }

    private void methodsAreShort() {
        CHECK.same("no two methods bear one name", methods.size(), (int) type.getMembers().stream()
            .filter(member -> member instanceof MethodTree).count());
        for (MethodTree method : methods.values()) {
            long lines = line(positions.getEndPosition(unit, method)) - line(positions.getStartPosition(unit, method));
            CHECK.same(method.getName() + " is short", lines < MOST_LINES, true);
        }
    }
}
