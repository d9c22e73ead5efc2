import com.sun.source.tree.ArrayTypeTree;
import com.sun.source.tree.ClassTree;
import com.sun.source.tree.CompilationUnitTree;
import com.sun.source.tree.ExpressionTree;
import com.sun.source.tree.IdentifierTree;
import com.sun.source.tree.MethodInvocationTree;
import com.sun.source.tree.MethodTree;
import com.sun.source.tree.NewArrayTree;
import com.sun.source.tree.PrimitiveTypeTree;
import com.sun.source.tree.Tree;
import com.sun.source.tree.Tree.Kind;
import com.sun.source.tree.TypeCastTree;
import com.sun.source.tree.VariableTree;
import com.sun.source.util.JavacTask;
import com.sun.source.util.SourcePositions;
import com.sun.source.util.TreeScanner;
import com.sun.source.util.Trees;
import java.io.IOException;
import java.nio.file.Path;
import java.util.HashSet;
import java.util.Map;
import java.util.Set;
import java.util.TreeMap;
import java.util.TreeSet;
import javax.lang.model.element.Modifier;
import javax.lang.model.type.TypeKind;
import javax.tools.JavaCompiler;
import javax.tools.StandardJavaFileManager;
import javax.tools.ToolProvider;

/** The rules of LANGUAGE.md that FaceTest can't see in the compiled class, read off the source. */
public final class LanguageTest extends TreeScanner<Void, Void> {
    private static final Path PROGRAM = Path.of("src/main/java/CellFabric.java");
    private static final int MOST_LINES = 60;
    private static final int DEEPEST_CALL = 6;

    private static final Set<Kind> RULED_OUT = Set.of(
        Kind.THROW, Kind.TRY, Kind.SYNCHRONIZED, Kind.ASSERT, Kind.INSTANCE_OF, Kind.LAMBDA_EXPRESSION,
        Kind.MEMBER_REFERENCE, Kind.NEW_CLASS, Kind.MEMBER_SELECT, Kind.NULL_LITERAL, Kind.STRING_LITERAL,
        Kind.FLOAT_LITERAL, Kind.DOUBLE_LITERAL);

    private final CompilationUnitTree unit;
    private final SourcePositions positions;
    private final Set<String> constants = new HashSet<>();
    private final Map<String, Set<String>> callsOf = new TreeMap<>();
    private String method = "";
    private boolean inArguments;

    private LanguageTest(CompilationUnitTree unit, SourcePositions positions) {
        this.unit = unit;
        this.positions = positions;
    }

    public static void main(String[] args) throws IOException {
        JavaCompiler compiler = ToolProvider.getSystemJavaCompiler();
        try (StandardJavaFileManager files = compiler.getStandardFileManager(null, null, null)) {
            JavacTask task = (JavacTask) compiler.getTask(
                null, files, null, null, null, files.getJavaFileObjects(PROGRAM));
            CompilationUnitTree unit = task.parse().iterator().next();
            new LanguageTest(unit, Trees.instance(task).getSourcePositions()).wholeFile();
        }
        Check.end();
    }

    private void wholeFile() {
        Check.due("a package line", unit.getPackage() != null, false);
        Check.due("imports", unit.getImports().size(), 0);
        Check.due("classes in the file", unit.getTypeDecls().size(), 1);
        ClassTree program = (ClassTree) unit.getTypeDecls().get(0);
        members(program);
        scan(program, null);
        for (String caller : callsOf.keySet()) {
            Check.due(caller + " goes over six calls deep", depth(caller, 1) > DEEPEST_CALL, false);
        }
    }

    private void members(ClassTree program) {
        for (Tree member : program.getMembers()) {
            if (member instanceof MethodTree m) {
                callsOf.put(m.getName().toString(), new TreeSet<>());
            } else if (member instanceof VariableTree field) {
                field(field);
            } else {
                wrong(member, "is no field, constructor or method");
            }
        }
    }

    private void field(VariableTree field) {
        Set<Modifier> flags = field.getModifiers().getFlags();
        if (flags.contains(Modifier.STATIC)) {
            constants.add(field.getName().toString());
        }
        // What is final is assigned once, so no method can put another array into the field.
        if (field.getType() instanceof ArrayTypeTree && !flags.contains(Modifier.FINAL)) {
            wrong(field, "is an array field that is not final");
        }
    }

    private void wrong(Tree tree, String why) {
        Check.wrong("line " + line(positions.getStartPosition(unit, tree)) + " " + why);
    }

    private long line(long position) {
        return unit.getLineMap().getLineNumber(position);
    }

    // A recursion never comes to an end here, so it counts as too deep.
    private int depth(String caller, int above) {
        int deepest = above;
        if (above <= DEEPEST_CALL) {
            for (String called : callsOf.get(caller)) {
                deepest = Math.max(deepest, depth(called, above + 1));
            }
        }
        return deepest;
    }

    @Override
    public Void scan(Tree tree, Void none) {
        if (tree != null && RULED_OUT.contains(tree.getKind())) {
            wrong(tree, "has a " + tree.getKind());
        }
        return super.scan(tree, none);
    }

    @Override
    public Void visitMethod(MethodTree m, Void none) {
        method = m.getName().toString();
        long lines = line(positions.getEndPosition(unit, m)) - line(positions.getStartPosition(unit, m)) + 1;
        Check.due(method + " is over sixty lines long", lines > MOST_LINES, false);
        super.visitMethod(m, none);
        method = "";
        return null;
    }

    @Override
    public Void visitVariable(VariableTree variable, Void none) {
        Tree type = variable.getType();
        if (!isWhole(type instanceof ArrayTypeTree array ? array.getType() : type)) {
            wrong(variable, "is of no type of rule 2");
        }
        return super.visitVariable(variable, none);
    }

    @Override
    public Void visitTypeCast(TypeCastTree cast, Void none) {
        if (!isWhole(cast.getType())) {
            wrong(cast, "casts to no type of rule 2");
        }
        return super.visitTypeCast(cast, none);
    }

    private static boolean isWhole(Tree type) {
        if (!(type instanceof PrimitiveTypeTree primitive)) {
            return false;
        }
        TypeKind kind = primitive.getPrimitiveTypeKind();
        return kind != TypeKind.FLOAT && kind != TypeKind.DOUBLE;
    }

    @Override
    public Void visitNewArray(NewArrayTree array, Void none) {
        boolean oneLength = array.getDimensions().size() == 1 && array.getInitializers() == null;
        if (!method.isEmpty() || !oneLength || !isConstant(array.getDimensions().get(0))) {
            wrong(array, "makes an array that is no field's with a constant length");
        }
        return super.visitNewArray(array, none);
    }

    private boolean isConstant(ExpressionTree length) {
        boolean named = length instanceof IdentifierTree name && constants.contains(name.getName().toString());
        return named || length.getKind() == Kind.INT_LITERAL;
    }

    @Override
    public Void visitMethodInvocation(MethodInvocationTree call, Void none) {
        String called = call.getMethodSelect().toString();
        if (inArguments) {
            wrong(call, "has a call inside the arguments of another call");
        }
        if (method.isEmpty() || !callsOf.containsKey(called)) {
            wrong(call, "calls " + called + ", which is no method of this class, or calls in a field");
            return null;
        }
        callsOf.get(method).add(called);
        boolean outside = inArguments;
        inArguments = true;
        scan(call.getArguments(), none);
        inArguments = outside;
        return null;
    }
}
