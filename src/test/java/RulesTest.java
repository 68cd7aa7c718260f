import com.sun.source.tree.BinaryTree;
import com.sun.source.tree.ClassTree;
import com.sun.source.tree.CompilationUnitTree;
import com.sun.source.tree.CompoundAssignmentTree;
import com.sun.source.tree.ExpressionTree;
import com.sun.source.tree.MethodInvocationTree;
import com.sun.source.tree.MethodTree;
import com.sun.source.tree.NewArrayTree;
import com.sun.source.tree.NewClassTree;
import com.sun.source.tree.Tree;
import com.sun.source.tree.TypeCastTree;
import com.sun.source.tree.VariableTree;
import com.sun.source.util.JavacTask;
import com.sun.source.util.TreePathScanner;
import com.sun.source.util.Trees;
import java.io.IOException;
import java.nio.charset.StandardCharsets;
import java.nio.file.Path;
import java.util.ArrayList;
import java.util.List;
import java.util.Map;
import java.util.Set;
import java.util.TreeMap;
import java.util.TreeSet;
import javax.lang.model.element.Element;
import javax.lang.model.element.ElementKind;
import javax.lang.model.element.Modifier;
import javax.tools.JavaCompiler;
import javax.tools.StandardJavaFileManager;
import javax.tools.ToolProvider;

/** Rules of ../shared/LANGUAGE.md that need the class as the compiler reads it, not as text. */
public final class RulesTest extends TreePathScanner<Void, Void> {
    private static final int MOST_DEEP = 8;
    private static final int MOST_CLASSES = 12;
    // A reading that met fewer methods than the class has tests nothing.
    private static final int LEAST_METHODS = 200;

    private static final Set<String> LIBRARY = Set.of("java.lang.System.arraycopy",
        "java.lang.String.length", "java.lang.String.charAt", "java.lang.Math.max", "java.lang.Math.min",
        "java.lang.Long.numberOfLeadingZeros");
    private static final Set<String> TYPES = Set.of("int", "long", "boolean", "char", "java.lang.String",
        "int[]", "long[]", "boolean[]", "int[][]");
    private static final Set<String> STATIC_TYPES = Set.of("int", "long", "boolean", "char",
        "java.lang.String", "ByteViews.Kind[]");
    private static final Set<Tree.Kind> DIVISIONS = Set.of(Tree.Kind.DIVIDE, Tree.Kind.REMAINDER,
        Tree.Kind.DIVIDE_ASSIGNMENT, Tree.Kind.REMAINDER_ASSIGNMENT);
    // The only divisors that are no written numbers; each is held against 0 ahead of its use.
    private static final Set<String> TESTED_DIVISORS = Set.of("b", "stride", "count", "divisor");

    private final Trees trees;
    private final Map<String, Set<String>> calls = new TreeMap<>();
    private final Set<String> classes = new TreeSet<>();
    private String method = "";
    private boolean mayMake = true;

    private RulesTest(Trees trees) {
        this.trees = trees;
    }

    public static void main(String[] args) throws IOException {
        JavaCompiler compiler = ToolProvider.getSystemJavaCompiler();
        StandardJavaFileManager files = compiler.getStandardFileManager(null, null, StandardCharsets.UTF_8);
        JavacTask task = (JavacTask) compiler.getTask(null, files, null, List.of("-proc:none"), null,
            files.getJavaFileObjects(Path.of("src/main/java/ByteViews.java")));
        Iterable<? extends CompilationUnitTree> units = task.parse();
        task.analyze();
        RulesTest test = new RulesTest(Trees.instance(task));
        for (CompilationUnitTree unit : units) {
            test.scan(unit, null);
        }
        test.classesAndDepth();
        Feeder.finish();
    }

    private void classesAndDepth() {
        Feeder.sentence("11: the file has at most some twelve classes");
        Feeder.due("classes " + classes, classes.size() <= MOST_CLASSES, true);
        Feeder.due("methods that were met: " + calls.size(), calls.size() >= LEAST_METHODS, true);
        for (String begin : calls.keySet()) {
            List<String> chain = deepest(begin, List.of());
            Feeder.sentence("11: calls that are no recursion go at most eight deep");
            Feeder.due("the depth of " + chain, chain.size() <= MOST_DEEP, true);
        }
    }

    /** The longest chain of calls from here; the library's functions are its last ones. */
    private List<String> deepest(String begin, List<String> open) {
        if (open.contains(begin)) {
            Feeder.sentence("8: no method of this class needs to call itself");
            Feeder.due(begin + " calls itself", true, false);
            return List.of();
        }
        List<String> way = new ArrayList<>(open);
        way.add(begin);
        List<String> best = List.of();
        for (String next : calls.getOrDefault(begin, Set.of())) {
            List<String> chain = deepest(next, way);
            best = chain.size() > best.size() ? chain : best;
        }
        List<String> all = new ArrayList<>(List.of(begin));
        all.addAll(best);
        return all;
    }

    private Element elementHere() {
        return trees.getElement(getCurrentPath());
    }

    private void due(String sentence, Tree tree, boolean good) {
        CompilationUnitTree unit = getCurrentPath().getCompilationUnit();
        long begin = trees.getSourcePositions().getStartPosition(unit, tree);
        Feeder.sentence(sentence);
        Feeder.due("line " + unit.getLineMap().getLineNumber(begin) + ": " + tree, good, true);
    }

    @Override
    public Void visitClass(ClassTree tree, Void none) {
        classes.add(elementHere().toString());
        return super.visitClass(tree, none);
    }

    @Override
    public Void visitMethod(MethodTree tree, Void none) {
        Element here = elementHere();
        method = here.getEnclosingElement() + "." + here;
        mayMake = here.getKind() == ElementKind.CONSTRUCTOR;
        calls.putIfAbsent(method, new TreeSet<>());
        super.visitMethod(tree, none);
        method = "";
        mayMake = true;
        return null;
    }

    @Override
    public Void visitMethodInvocation(MethodInvocationTree tree, Void none) {
        Element called = elementHere();
        String owner = called.getEnclosingElement().toString();
        boolean isConstructor = called.getKind() == ElementKind.CONSTRUCTOR;
        if (!method.isEmpty() && !isConstructor) {
            calls.get(method).add(owner + "." + called);
        }
        due("4: The library: only what stands here", tree, isConstructor || owner.startsWith("ByteViews")
            || LIBRARY.contains(owner + "." + called.getSimpleName()));
        return super.visitMethodInvocation(tree, none);
    }

    @Override
    public Void visitNewClass(NewClassTree tree, Void none) {
        due("12: what a run makes is counted (here nothing behind the constructors)", tree, mayMake);
        return super.visitNewClass(tree, none);
    }

    @Override
    public Void visitNewArray(NewArrayTree tree, Void none) {
        due("12: what a run makes is counted (here nothing behind the constructors)", tree, mayMake);
        return super.visitNewArray(tree, none);
    }

    @Override
    public Void visitVariable(VariableTree tree, Void none) {
        Element e = elementHere();
        String type = e.asType().toString();
        due("3: Types", tree, type.startsWith("ByteViews.") || TYPES.contains(type));
        if (e.getKind() == ElementKind.FIELD && e.getModifiers().contains(Modifier.STATIC)) {
            due("5: Static fields are final", tree, e.getModifiers().contains(Modifier.FINAL));
            due("5: constants of int, long, boolean, char or String, .. values() kept once", tree,
                STATIC_TYPES.contains(type));
        }
        return super.visitVariable(tree, none);
    }

    @Override
    public Void visitTypeCast(TypeCastTree tree, Void none) {
        String type = tree.getType().toString();
        due("7: No call may ever throw by itself (so numbers alone are cast here)", tree,
            type.equals("int") || type.equals("long"));
        return super.visitTypeCast(tree, none);
    }

    @Override
    public Void visitBinary(BinaryTree tree, Void none) {
        divisor(tree, tree.getRightOperand());
        return super.visitBinary(tree, none);
    }

    @Override
    public Void visitCompoundAssignment(CompoundAssignmentTree tree, Void none) {
        divisor(tree, tree.getExpression());
        return super.visitCompoundAssignment(tree, none);
    }

    private void divisor(Tree tree, ExpressionTree by) {
        String text = by.toString();
        boolean isWritten = text.matches("[1-9][0-9]*") || text.equals("MOST_HISTORY");
        due("7: a divisor is looked at before it divides", tree,
            !DIVISIONS.contains(tree.getKind()) || isWritten || TESTED_DIVISORS.contains(text));
    }
}
