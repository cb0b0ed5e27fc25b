import com.sun.source.tree.ArrayTypeTree;
import com.sun.source.tree.ClassTree;
import com.sun.source.tree.CompilationUnitTree;
import com.sun.source.tree.DoWhileLoopTree;
import com.sun.source.tree.ForLoopTree;
import com.sun.source.tree.IdentifierTree;
import com.sun.source.tree.MemberSelectTree;
import com.sun.source.tree.MethodInvocationTree;
import com.sun.source.tree.MethodTree;
import com.sun.source.tree.NewArrayTree;
import com.sun.source.tree.Tree;
import com.sun.source.tree.VariableTree;
import com.sun.source.tree.WhileLoopTree;
import com.sun.source.util.JavacTask;
import com.sun.source.util.SourcePositions;
import com.sun.source.util.TreeScanner;
import com.sun.source.util.Trees;
import java.io.File;
import java.io.IOException;
import java.util.EnumSet;
import java.util.List;
import java.util.Map;
import java.util.Set;
import java.util.TreeMap;
import java.util.TreeSet;
import javax.lang.model.element.Modifier;
import javax.tools.JavaCompiler;
import javax.tools.StandardJavaFileManager;
import javax.tools.ToolProvider;

/** The rules of LANGUAGE.md that can be read off the source, told by their numbers; FaceTest has the rest of rule 1. */
public final class LanguageTest extends TreeScanner<Void, Void> {
    private static final Due DUE = new Due("LanguageTest");
    private static final File SOURCE = new File("src/main/java/PubSubBroker.java");
    private static final Set<String> NUMBERS = Set.of("int", "long", "short", "byte", "char", "boolean");
    private static final Set<Tree.Kind> FORBIDDEN = EnumSet.of(
            Tree.Kind.INTERFACE, Tree.Kind.ENUM, Tree.Kind.RECORD, Tree.Kind.ANNOTATION_TYPE, Tree.Kind.IMPORT,
            Tree.Kind.PACKAGE, Tree.Kind.NEW_CLASS, Tree.Kind.NULL_LITERAL, Tree.Kind.STRING_LITERAL,
            Tree.Kind.FLOAT_LITERAL, Tree.Kind.DOUBLE_LITERAL, Tree.Kind.THROW, Tree.Kind.TRY, Tree.Kind.CATCH,
            Tree.Kind.SYNCHRONIZED, Tree.Kind.ASSERT, Tree.Kind.INSTANCE_OF, Tree.Kind.LAMBDA_EXPRESSION,
            Tree.Kind.MEMBER_REFERENCE, Tree.Kind.ENHANCED_FOR_LOOP);

    private final CompilationUnitTree unit;
    private final SourcePositions positions;
    private final Map<String, Set<String>> calls = new TreeMap<>();
    private String method = "";
    private int classes = 0;
    private int fields = 0;
    private int argumentsDeep = 0;

    private LanguageTest(CompilationUnitTree unit, SourcePositions positions) {
        this.unit = unit;
        this.positions = positions;
    }

    public static void main(String[] args) throws IOException {
        JavaCompiler compiler = ToolProvider.getSystemJavaCompiler();
        try (StandardJavaFileManager files = compiler.getStandardFileManager(null, null, null)) {
            JavacTask task = (JavacTask) compiler.getTask(null, files, null, List.of("-proc:none"), null,
                    files.getJavaFileObjects(SOURCE));
            CompilationUnitTree unit = task.parse().iterator().next();
            LanguageTest test = new LanguageTest(unit, Trees.instance(task).getSourcePositions());
            test.scan(unit, null);
            test.tellWhole();
        }
        DUE.end();
    }

    private void tellWhole() {
        DUE.is("rule 1: classes", classes, 1);
        DUE.yes("rule 10: " + fields + " fields", fields <= 40);
        for (String name : calls.keySet()) {
            int depth = depth(name, new TreeSet<>());
            DUE.yes("rules 8 and 10: " + name + " calls " + depth + " deep", depth <= 6);
        }
    }

    /** How many methods stand in the longest chain of calls from this one; a recursion counts as too many. */
    private int depth(String name, Set<String> above) {
        if (above.contains(name)) {
            return 1000;
        }
        Set<String> chain = new TreeSet<>(above);
        chain.add(name);
        int deepest = 0;
        for (String called : calls.getOrDefault(name, Set.of())) {
            deepest = Math.max(deepest, depth(called, chain));
        }
        return deepest + 1;
    }

    private long line(long position) {
        return unit.getLineMap().getLineNumber(position);
    }

    @Override
    public Void scan(Tree tree, Void nothing) {
        if (tree != null) {
            DUE.no("a " + tree.getKind() + " in " + method, FORBIDDEN.contains(tree.getKind()));
        }
        return super.scan(tree, nothing);
    }

    @Override
    public Void visitClass(ClassTree tree, Void nothing) {
        classes++;
        return super.visitClass(tree, nothing);
    }

    @Override
    public Void visitMethod(MethodTree tree, Void nothing) {
        method = tree.getName().toString();
        calls.put(method, new TreeSet<>());
        DUE.yes("rule 10: parameters of " + method, tree.getParameters().size() <= 7);
        long lines = line(positions.getEndPosition(unit, tree)) - line(positions.getStartPosition(unit, tree)) + 1;
        DUE.yes("rule 10: " + lines + " lines of " + method, lines <= 60);
        if (tree.getReturnType() != null) {
            String type = tree.getReturnType().toString();
            DUE.yes("rules 2 and 4: " + method + " answers " + type, type.equals("void") || NUMBERS.contains(type));
        }
        super.visitMethod(tree, nothing);
        method = "";
        return null;
    }

    @Override
    public Void visitVariable(VariableTree tree, Void nothing) {
        Tree type = tree.getType();
        boolean isArray = type instanceof ArrayTypeTree;
        String element = isArray ? ((ArrayTypeTree) type).getType().toString() : type.toString();
        DUE.yes("rule 2: type of " + tree.getName(), NUMBERS.contains(element));
        Set<Modifier> modifiers = tree.getModifiers().getFlags();
        if (method.isEmpty() && modifiers.contains(Modifier.STATIC)) {
            boolean isConstant = modifiers.contains(Modifier.FINAL) && tree.getInitializer() != null;
            DUE.yes("rule 5: static " + tree.getName(), isConstant && Set.of("int", "long").contains(type.toString()));
        } else if (method.isEmpty()) {
            fields++;
            DUE.yes("rule 4: array " + tree.getName() + " is final", !isArray || modifiers.contains(Modifier.FINAL));
        }
        return super.visitVariable(tree, nothing);
    }

    @Override
    public Void visitNewArray(NewArrayTree tree, Void nothing) {
        DUE.is("rule 4: an array is made in", method, "");
        boolean plain = tree.getInitializers() == null && tree.getDimensions().size() == 1
                && (tree.getDimensions().get(0) instanceof IdentifierTree);
        DUE.yes("rule 4: the length of " + tree + " is a constant", plain);
        return super.visitNewArray(tree, nothing);
    }

    @Override
    public Void visitMethodInvocation(MethodInvocationTree tree, Void nothing) {
        String called = tree.getMethodSelect().toString();
        if (called.equals("super")) {
            return null;
        }
        DUE.is("rule 10: calls around " + called + " in " + method, argumentsDeep, 0);
        calls.get(method).add(called);
        argumentsDeep++;
        scan(tree.getArguments(), nothing);
        argumentsDeep--;
        return scan(tree.getMethodSelect(), nothing);
    }

    @Override
    public Void visitMemberSelect(MemberSelectTree tree, Void nothing) {
        DUE.is("rule 3: a member of another class", tree.toString(), "");
        return super.visitMemberSelect(tree, nothing);
    }

    @Override
    public Void visitForLoop(ForLoopTree tree, Void nothing) {
        DUE.yes("rule 8: a loop's bound in " + method, tree.getCondition() != null && tree.getUpdate().size() == 1);
        return super.visitForLoop(tree, nothing);
    }

    @Override
    public Void visitWhileLoop(WhileLoopTree tree, Void nothing) {
        DUE.is("rule 8: a loop without a counter of its own", method, "");
        return super.visitWhileLoop(tree, nothing);
    }

    @Override
    public Void visitDoWhileLoop(DoWhileLoopTree tree, Void nothing) {
        DUE.is("rule 8: a loop without a counter of its own", method, "");
        return super.visitDoWhileLoop(tree, nothing);
    }
}
