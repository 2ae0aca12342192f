import com.sun.source.tree.ArrayTypeTree;
import com.sun.source.tree.AssignmentTree;
import com.sun.source.tree.BinaryTree;
import com.sun.source.tree.ClassTree;
import com.sun.source.tree.CompilationUnitTree;
import com.sun.source.tree.ExpressionTree;
import com.sun.source.tree.ForLoopTree;
import com.sun.source.tree.IdentifierTree;
import com.sun.source.tree.MethodInvocationTree;
import com.sun.source.tree.MethodTree;
import com.sun.source.tree.NewArrayTree;
import com.sun.source.tree.PrimitiveTypeTree;
import com.sun.source.tree.Tree;
import com.sun.source.tree.Tree.Kind;
import com.sun.source.tree.VariableTree;
import com.sun.source.util.JavacTask;
import com.sun.source.util.SourcePositions;
import com.sun.source.util.TreeScanner;
import com.sun.source.util.Trees;
import java.nio.file.Path;
import java.util.EnumSet;
import java.util.HashMap;
import java.util.Map;
import java.util.Set;
import java.util.TreeSet;
import javax.lang.model.element.Modifier;
import javax.lang.model.type.TypeKind;
import javax.tools.StandardJavaFileManager;
import javax.tools.ToolProvider;

/** The rules of LANGUAGE.md that the text of the class shows. To be run from the project's directory. */
public final class LanguageTest {
    private static final Path SOURCE = Path.of("src/main/java/LazyTensorTape.java");

    /** Rules 2, 3, 4 and 6, and what rule 8 would need a look at: the class has for loops alone. */
    private static final Set<Kind> RULED_OUT = EnumSet.of(Kind.PACKAGE, Kind.IMPORT, Kind.MEMBER_SELECT,
        Kind.NEW_CLASS, Kind.STRING_LITERAL, Kind.FLOAT_LITERAL, Kind.DOUBLE_LITERAL, Kind.NULL_LITERAL, Kind.THROW,
        Kind.TRY, Kind.SYNCHRONIZED, Kind.ASSERT, Kind.INSTANCE_OF, Kind.LAMBDA_EXPRESSION, Kind.MEMBER_REFERENCE,
        Kind.ENHANCED_FOR_LOOP, Kind.WHILE_LOOP, Kind.DO_WHILE_LOOP, Kind.ANNOTATION);
    private static final Set<Kind> BOUNDS = EnumSet.of(Kind.LESS_THAN, Kind.LESS_THAN_EQUAL, Kind.GREATER_THAN,
        Kind.GREATER_THAN_EQUAL);

    private final CompilationUnitTree file;
    private final SourcePositions positions;
    private final ClassTree type;
    private final Set<String> arrays = new TreeSet<>();
    private final Map<String, Set<String>> callsOf = new HashMap<>();

    private LanguageTest(CompilationUnitTree file, SourcePositions positions) {
        this.file = file;
        this.positions = positions;
        this.type = (ClassTree) file.getTypeDecls().get(0);
    }

    public static void main(String[] args) throws Exception {
        var compiler = ToolProvider.getSystemJavaCompiler();
        try (StandardJavaFileManager files = compiler.getStandardFileManager(null, null, null)) {
            var sources = files.getJavaFileObjects(SOURCE);
            JavacTask task = (JavacTask) compiler.getTask(null, files, null, null, null, sources);
            CompilationUnitTree file = task.parse().iterator().next();
            LanguageTest test = new LanguageTest(file, Trees.instance(task).getSourcePositions());
            test.oneClass();
            test.nothingRuledOut();
            test.fields();
            test.methods();
            test.callsGoDownAtMostSix();
        }
        Check.end();
    }

    private void wrong(String rule, Tree tree) {
        Check.due(rule + ", line " + line(positions.getStartPosition(file, tree)), false, true);
    }

    private long line(long position) {
        return position < 0 ? 0 : file.getLineMap().getLineNumber(position);
    }

    private void oneClass() {
        Check.due("rule 1: types in the file", file.getTypeDecls().size(), 1);
        for (Tree member : type.getMembers()) {
            if (!(member instanceof VariableTree) && !(member instanceof MethodTree)) {
                wrong("rules 1 and 5: neither field nor method", member);
            }
        }
    }

    private void nothingRuledOut() {
        new TreeScanner<Void, Void>() {
            @Override
            public Void scan(Tree tree, Void nothing) {
                if (tree != null && RULED_OUT.contains(tree.getKind())) {
                    wrong("rules 2, 3, 4, 6 and 8: " + tree.getKind(), tree);
                }
                return super.scan(tree, nothing);
            }

            @Override
            public Void visitForLoop(ForLoopTree loop, Void nothing) {
                Tree condition = loop.getCondition();
                if (condition == null || !BOUNDS.contains(condition.getKind()) || !(condition instanceof BinaryTree)
                    || loop.getUpdate().size() != 1) {
                    wrong("rule 8: no counter against a bound", loop);
                }
                return super.visitForLoop(loop, nothing);
            }

            @Override
            public Void visitVariable(VariableTree variable, Void nothing) {
                typeIsPlain(variable.getType());
                return super.visitVariable(variable, nothing);
            }
        }.scan(file, null);
    }

    private void typeIsPlain(Tree named) {
        Tree held = named instanceof ArrayTypeTree array ? array.getType() : named;
        TypeKind kind = held instanceof PrimitiveTypeTree primitive ? primitive.getPrimitiveTypeKind() : TypeKind.OTHER;
        if (kind == TypeKind.OTHER || kind == TypeKind.FLOAT || kind == TypeKind.DOUBLE) {
            wrong("rule 2: the type " + named, named);
        }
    }

    private void fields() {
        for (Tree member : type.getMembers()) {
            if (member instanceof VariableTree field) {
                if (field.getType() instanceof ArrayTypeTree) {
                    arrays.add(field.getName().toString());
                    arrayIsMadeOnce(field);
                }
                if (field.getModifiers().getFlags().contains(Modifier.STATIC)
                    && field.getInitializer().getKind() != Kind.INT_LITERAL) {
                    wrong("rule 5: no constant", field);
                }
            }
        }
    }

    private void arrayIsMadeOnce(VariableTree field) {
        boolean made = field.getInitializer() instanceof NewArrayTree array && array.getInitializers() == null
            && array.getDimensions().size() == 1 && array.getDimensions().get(0) instanceof IdentifierTree;
        if (!made) {
            wrong("rule 4: not made with a constant length", field);
        }
    }

    private void methods() {
        for (Tree member : type.getMembers()) {
            if (member instanceof MethodTree method) {
                String name = method.getName().toString();
                Check.due("two methods named " + name, callsOf.put(name, new TreeSet<>()) == null, true);
                long first = line(positions.getStartPosition(file, method));
                long last = line(positions.getEndPosition(file, method));
                int parameters = method.getParameters().size();
                Check.due("rule 10: " + name + " has at most sixty lines", last - first < 60, true);
                Check.due("rule 10: " + name + " has at most seven parameters", parameters <= 7, true);
                body(name, method);
            }
        }
    }

    private void body(String name, MethodTree method) {
        new TreeScanner<Void, Void>() {
            private boolean inArguments = false;

            @Override
            public Void visitNewArray(NewArrayTree array, Void nothing) {
                wrong("rule 4: a method makes an array", array);
                return super.visitNewArray(array, nothing);
            }

            @Override
            public Void visitAssignment(AssignmentTree assignment, Void nothing) {
                if (arrays.contains(assignment.getVariable().toString())) {
                    wrong("rule 4: an array field is assigned to", assignment);
                }
                return super.visitAssignment(assignment, nothing);
            }

            @Override
            public Void visitMethodInvocation(MethodInvocationTree call, Void nothing) {
                if (inArguments) {
                    wrong("rule 10: a call in the arguments of another", call);
                }
                callsOf.get(name).add(call.getMethodSelect().toString());
                boolean before = inArguments;
                inArguments = true;
                for (ExpressionTree argument : call.getArguments()) {
                    scan(argument, null);
                }
                inArguments = before;
                return null;
            }
        }.scan(method.getBody(), null);
    }

    /** Six rounds take away every method, each those that call no method that is left: so there is no recursion. */
    private void callsGoDownAtMostSix() {
        for (Map.Entry<String, Set<String>> entry : callsOf.entrySet()) {
            for (String called : entry.getValue()) {
                Check.due("rule 3: " + entry.getKey() + " calls a method of the class: " + called,
                    callsOf.containsKey(called), true);
            }
        }
        Set<String> left = new TreeSet<>(callsOf.keySet());
        for (int round = 0; round < 6; round++) {
            Set<String> above = new TreeSet<>();
            for (String name : left) {
                for (String called : callsOf.get(name)) {
                    if (left.contains(called)) {
                        above.add(name);
                    }
                }
            }
            left = above;
        }
        Check.due("rules 8 and 10: calls go deeper than six or in a ring: " + left, left.isEmpty(), true);
    }
}
