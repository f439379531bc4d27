import com.sun.source.tree.ClassTree;
import com.sun.source.tree.CompilationUnitTree;
import com.sun.source.tree.ExpressionTree;
import com.sun.source.tree.IdentifierTree;
import com.sun.source.tree.LineMap;
import com.sun.source.tree.MethodInvocationTree;
import com.sun.source.tree.MethodTree;
import com.sun.source.tree.NewArrayTree;
import com.sun.source.tree.PrimitiveTypeTree;
import com.sun.source.tree.Tree;
import com.sun.source.tree.VariableTree;
import com.sun.source.util.JavacTask;
import com.sun.source.util.SourcePositions;
import com.sun.source.util.TreeScanner;
import com.sun.source.util.Trees;
import java.io.IOException;
import java.nio.file.Path;
import java.util.EnumSet;
import java.util.List;
import java.util.Map;
import java.util.Set;
import java.util.TreeMap;
import java.util.TreeSet;
import javax.lang.model.element.Modifier;
import javax.lang.model.type.TypeKind;
import javax.tools.JavaCompiler;
import javax.tools.StandardJavaFileManager;
import javax.tools.ToolProvider;

/** The rules of LANGUAGE.md that can be read off the source; it is read from the folder that the test is started in. */
final class LanguageTest extends Support {
    private static final Path SOURCE = Path.of("src", "main", "java", "TearSafeCard.java");
    private static final int LONGEST_METHOD = 62;
    private static final int MOST_FIELDS = 40;
    private static final int MOST_PARAMETERS = 7;
    private static final int DEEPEST_CALL = 6;
    private static final Set<Tree.Kind> FORBIDDEN = EnumSet.of(
        Tree.Kind.THROW, Tree.Kind.TRY, Tree.Kind.SYNCHRONIZED, Tree.Kind.ASSERT, Tree.Kind.INSTANCE_OF,
        Tree.Kind.LAMBDA_EXPRESSION, Tree.Kind.MEMBER_REFERENCE, Tree.Kind.IMPORT, Tree.Kind.PACKAGE, Tree.Kind.NEW_CLASS,
        Tree.Kind.STRING_LITERAL, Tree.Kind.NULL_LITERAL, Tree.Kind.FLOAT_LITERAL, Tree.Kind.DOUBLE_LITERAL,
        Tree.Kind.INTERFACE, Tree.Kind.ENUM, Tree.Kind.RECORD, Tree.Kind.PARAMETERIZED_TYPE, Tree.Kind.ANNOTATION);

    private static final Map<String, Set<String>> calls = new TreeMap<>();

    public static void main(String[] args) throws IOException {
        JavaCompiler compiler = ToolProvider.getSystemJavaCompiler();
        try (StandardJavaFileManager files = compiler.getStandardFileManager(null, null, null)) {
            JavacTask task = (JavacTask) compiler.getTask(null, files, null, null, null, files.getJavaFileObjects(SOURCE));
            CompilationUnitTree unit = task.parse().iterator().next();
            due("classes in the file", unit.getTypeDecls().size(), 1);
            due("imports", unit.getImports().size(), 0);
            ClassTree card = (ClassTree) unit.getTypeDecls().get(0);
            members(card, unit, Trees.instance(task).getSourcePositions());
            forbidden(card);
            nestedCalls(card);
            callDepth();
        }
        end();
    }

    private static void members(ClassTree card, CompilationUnitTree unit, SourcePositions positions) {
        int fields = 0;
        for (Tree member : card.getMembers()) {
            if (member instanceof VariableTree field) {
                fields += field.getModifiers().getFlags().contains(Modifier.STATIC) ? 0 : 1;
                field(field);
            } else {
                due("a member is a field or a method", member instanceof MethodTree, true);
                method((MethodTree) member, unit, positions);
            }
        }
        due("fields beside the constants: " + fields, fields <= MOST_FIELDS, true);
    }

    private static void field(VariableTree field) {
        Set<Modifier> flags = field.getModifiers().getFlags();
        if (flags.contains(Modifier.STATIC)) {
            String type = field.getType().toString();
            boolean constant = flags.contains(Modifier.FINAL) && (type.equals("int") || type.equals("long"));
            due(field.getName() + " is a constant", constant, true);
        } else {
            due(field.getName() + " is private", flags.contains(Modifier.PRIVATE), true);
        }
        if (field.getInitializer() instanceof NewArrayTree array) {
            List<? extends ExpressionTree> sizes = array.getDimensions();
            due(field.getName() + " has one dimension", sizes.size(), 1);
            boolean plain = sizes.get(0).getKind() == Tree.Kind.INT_LITERAL || sizes.get(0) instanceof IdentifierTree;
            due(field.getName() + " has a constant length", plain, true);
        }
    }

    private static void method(MethodTree method, CompilationUnitTree unit, SourcePositions positions) {
        String name = method.getName().toString();
        LineMap lines = unit.getLineMap();
        long first = lines.getLineNumber(positions.getStartPosition(unit, method));
        long last = lines.getLineNumber(positions.getEndPosition(unit, method));
        due(name + " has " + (last - first + 1) + " lines", last - first + 1 <= LONGEST_METHOD, true);
        due(name + "'s parameters", method.getParameters().size() <= MOST_PARAMETERS, true);
        due(name + " is the only one of its name", calls.containsKey(name), false);
        Set<String> called = new TreeSet<>();
        calls.put(name, called);
        new TreeScanner<Void, Void>() {
            @Override
            public Void visitMethodInvocation(MethodInvocationTree call, Void unused) {
                due(name + " calls " + call.getMethodSelect() + " by its plain name",
                    call.getMethodSelect() instanceof IdentifierTree, true);
                called.add(call.getMethodSelect().toString());
                return super.visitMethodInvocation(call, unused);
            }

            @Override
            public Void visitNewArray(NewArrayTree array, Void unused) {
                due(name + " makes an array", true, false);
                return super.visitNewArray(array, unused);
            }
        }.scan(method.getBody(), null);
        called.remove("super");
    }

    private static void forbidden(ClassTree card) {
        new TreeScanner<Void, Void>() {
            @Override
            public Void scan(Tree tree, Void unused) {
                if (tree != null) {
                    due("forbidden: " + tree.getKind(), FORBIDDEN.contains(tree.getKind()), false);
                }
                return super.scan(tree, unused);
            }

            @Override
            public Void visitPrimitiveType(PrimitiveTypeTree type, Void unused) {
                TypeKind kind = type.getPrimitiveTypeKind();
                due("type " + kind, kind == TypeKind.FLOAT || kind == TypeKind.DOUBLE, false);
                return super.visitPrimitiveType(type, unused);
            }

            @Override
            public Void visitClass(ClassTree found, Void unused) {
                due("a class in the class", found != card, false);
                return super.visitClass(found, unused);
            }
        }.scan(card, null);
    }

    private static void nestedCalls(ClassTree card) {
        new TreeScanner<Void, Boolean>() {
            @Override
            public Void visitMethodInvocation(MethodInvocationTree call, Boolean inside) {
                due("a call inside the arguments of another: " + call, inside, false);
                return scan(call.getArguments(), true);
            }
        }.scan(card, false);
    }

    /** Starting with the methods that call nothing, each is one deeper than the deepest that it calls. */
    private static void callDepth() {
        Map<String, Integer> depths = new TreeMap<>();
        for (int round = 0; round < calls.size(); round++) {
            calls.forEach((name, called) -> {
                if (depths.keySet().containsAll(called)) {
                    int below = called.stream().mapToInt(depths::get).max().orElse(0);
                    depths.put(name, below + 1);
                }
            });
        }
        due("methods that are not recursive", depths.size(), calls.size());
        depths.forEach((name, depth) -> due(name + " is " + depth + " calls deep", depth <= DEEPEST_CALL, true));
    }
}
