import com.sun.source.tree.*;
import com.sun.source.util.JavacTask;
import com.sun.source.util.TreePath;
import com.sun.source.util.TreePathScanner;
import com.sun.source.util.Trees;
import java.io.IOException;
import java.nio.file.Path;
import java.util.ArrayList;
import java.util.EnumSet;
import java.util.LinkedHashMap;
import java.util.LinkedHashSet;
import java.util.List;
import java.util.Map;
import java.util.Set;
import java.util.TreeSet;
import javax.lang.model.element.Element;
import javax.lang.model.element.ElementKind;
import javax.lang.model.element.ExecutableElement;
import javax.lang.model.element.Modifier;
import javax.lang.model.element.TypeElement;
import javax.tools.JavaCompiler;
import javax.tools.StandardJavaFileManager;
import javax.tools.ToolProvider;

/** The rules of LANGUAGE.md that need the source to be read as the compiler reads it: what calls what, and what is made. */
public final class SourceTest extends TreePathScanner<Void, Void> {
    private static final Path SOURCE = Path.of("src/main/java/TrunkRadio.java");
    private static final int DEEPEST = 8;
    private static final Set<String> LIBRARY = Set.of("System.arraycopy", "Math.max", "Math.min", "Integer.bitCount",
        "Object.<init>");
    private static final Set<String> TYPES = Set.of("int", "boolean", "void");
    private static final Set<Tree.Kind> LEFT_OUT = EnumSet.of(Tree.Kind.THROW, Tree.Kind.TRY, Tree.Kind.CATCH,
        Tree.Kind.SYNCHRONIZED, Tree.Kind.ASSERT, Tree.Kind.LAMBDA_EXPRESSION, Tree.Kind.MEMBER_REFERENCE,
        Tree.Kind.SWITCH_EXPRESSION, Tree.Kind.TYPE_CAST, Tree.Kind.INSTANCE_OF, Tree.Kind.DO_WHILE_LOOP,
        Tree.Kind.STRING_LITERAL, Tree.Kind.DOUBLE_LITERAL, Tree.Kind.FLOAT_LITERAL, Tree.Kind.ANNOTATION,
        Tree.Kind.PARAMETERIZED_TYPE);

    private final Trees trees;
    private final CompilationUnitTree unit;
    /** For each method or constructor, those that it calls. */
    private final Map<Element, Set<Element>> calls = new LinkedHashMap<>();
    private final Set<String> ownTypes = new TreeSet<>();
    private Element open;

    private SourceTest(Trees trees, CompilationUnitTree unit) {
        this.trees = trees;
        this.unit = unit;
    }

    public static void main(String[] args) throws IOException {
        JavaCompiler compiler = ToolProvider.getSystemJavaCompiler();
        try (StandardJavaFileManager files = compiler.getStandardFileManager(null, null, null)) {
            JavacTask task = (JavacTask) compiler.getTask(null, files, null, List.of("-proc:none"), null,
                files.getJavaFileObjects(SOURCE));
            CompilationUnitTree unit = task.parse().iterator().next();
            task.analyze();
            SourceTest test = new SourceTest(Trees.instance(task), unit);
            test.scan(new TreePath(unit), null);
            test.callsAreNotDeep();
        }
        Check.end();
    }

    private String where(Tree tree) {
        long line = unit.getLineMap().getLineNumber(trees.getSourcePositions().getStartPosition(unit, tree));
        return "line " + line + ": ";
    }

    private Element element() {
        return trees.getElement(getCurrentPath());
    }

    @Override
    public Void visitCompilationUnit(CompilationUnitTree tree, Void none) {
        Check.due("classes in the file", tree.getTypeDecls().size(), 1);
        Check.due("imports", tree.getImports().size(), 0);
        Check.isTrue("no package", tree.getPackage() == null);
        return super.visitCompilationUnit(tree, none);
    }

    @Override
    public Void visitClass(ClassTree tree, Void none) {
        ownTypes.add(tree.getSimpleName().toString());
        boolean isMember = getCurrentPath().getParentPath().getLeaf() instanceof ClassTree;
        boolean isTop = getCurrentPath().getParentPath().getLeaf() == unit;
        Check.isTrue(where(tree) + "no local or anonymous class", isMember || isTop);
        Check.isTrue(where(tree) + "static", isTop || tree.getModifiers().getFlags().contains(Modifier.STATIC));
        Check.isTrue("some twelve classes", ownTypes.size() <= 12);
        for (Tree member : tree.getMembers()) {
            Check.isTrue(where(member) + "no initialiser block", !(member instanceof BlockTree));
        }
        return super.visitClass(tree, none);
    }

    @Override
    public Void visitMethod(MethodTree tree, Void none) {
        LineMap lines = unit.getLineMap();
        long first = lines.getLineNumber(trees.getSourcePositions().getStartPosition(unit, tree));
        long last = lines.getLineNumber(Math.max(0, trees.getSourcePositions().getEndPosition(unit, tree)));
        Check.isTrue(where(tree) + "some sixty lines", last - first < 60);
        Check.isTrue(where(tree) + "seven parameters at most", tree.getParameters().size() <= 7);
        Element outer = open;
        open = element();
        calls.put(open, new LinkedHashSet<>());
        super.visitMethod(tree, none);
        open = outer;
        return null;
    }

    @Override
    public Void visitVariable(VariableTree tree, Void none) {
        Element variable = element();
        boolean isStatic = variable.getModifiers().contains(Modifier.STATIC);
        boolean isConstant = variable.getModifiers().contains(Modifier.FINAL) && tree.getType().toString().equals("int");
        Check.isTrue(where(tree) + "a static field is a constant of int", !isStatic || isConstant);
        return super.visitVariable(tree, none);
    }

    @Override
    public Void visitMethodInvocation(MethodInvocationTree tree, Void none) {
        called(trees.getElement(new TreePath(getCurrentPath(), tree.getMethodSelect())), tree);
        return super.visitMethodInvocation(tree, none);
    }

    private void called(Element method, Tree tree) {
        TypeElement owner = (TypeElement) method.getEnclosingElement();
        boolean isOwn = owner.getQualifiedName().toString().startsWith("TrunkRadio");
        String name = owner.getSimpleName() + "." + method.getSimpleName();
        Check.isTrue(where(tree) + "of the library: " + name, isOwn || LIBRARY.contains(name));
        if (isOwn && open != null) {
            calls.get(open).add(method);
        }
    }

    // Rule 12 asks for few objects: here none is made but by constructors and for fields.
    @Override
    public Void visitNewClass(NewClassTree tree, Void none) {
        madeAhead(tree);
        called(element(), tree);
        return super.visitNewClass(tree, none);
    }

    @Override
    public Void visitNewArray(NewArrayTree tree, Void none) {
        madeAhead(tree);
        Check.isTrue(where(tree) + "one dimension", tree.getDimensions().size() == 1);
        return super.visitNewArray(tree, none);
    }

    private void madeAhead(Tree tree) {
        Check.isTrue(where(tree) + "no call makes an object", open == null || open.getKind() == ElementKind.CONSTRUCTOR);
    }

    @Override
    public Void visitForLoop(ForLoopTree tree, Void none) {
        Check.isTrue(where(tree) + "a counter against a bound", tree.getCondition() != null && tree.getUpdate().size() == 1
            && tree.getInitializer().size() == 1);
        return super.visitForLoop(tree, none);
    }

    @Override
    public Void visitWhileLoop(WhileLoopTree tree, Void none) {
        String condition = tree.getCondition().toString();
        Check.isTrue(where(tree) + "a counter against a bound: " + condition, condition.matches("\\(\\w+ [<>] \\w+ && .*"));
        return super.visitWhileLoop(tree, none);
    }

    /** What stands for something that the rules leave out, or that the class does without. */
    @Override
    public Void scan(Tree tree, Void none) {
        if (tree != null) {
            Check.isTrue(where(tree) + "no " + tree.getKind(), !LEFT_OUT.contains(tree.getKind()));
        }
        return super.scan(tree, none);
    }

    @Override
    public Void visitPrimitiveType(PrimitiveTypeTree tree, Void none) {
        Check.isTrue(where(tree) + "the type " + tree, TYPES.contains(tree.toString()));
        return super.visitPrimitiveType(tree, none);
    }

    @Override
    public Void visitArrayType(ArrayTypeTree tree, Void none) {
        Check.isTrue(where(tree) + "one dimension", !(tree.getType() instanceof ArrayTypeTree));
        return super.visitArrayType(tree, none);
    }

    // "calls that are no recursion go at most eight deep", and there is no recursion at all.
    private void callsAreNotDeep() {
        Check.isTrue("the calls are known", calls.size() > 60);
        for (Element method : calls.keySet()) {
            List<Element> way = deepest(method, new ArrayList<>());
            Check.isTrue("at most " + DEEPEST + " deep: " + way, way.size() <= DEEPEST);
        }
    }

    private List<Element> deepest(Element method, List<Element> above) {
        boolean isRecursive = above.contains(method);
        Check.isTrue("no recursion: " + method, !isRecursive);
        List<Element> way = new ArrayList<>();
        way.add(method);
        if (isRecursive || !(method instanceof ExecutableElement)) {
            return way;
        }
        above.add(method);
        List<Element> longest = List.of();
        for (Element next : calls.getOrDefault(method, Set.of())) {
            List<Element> one = deepest(next, above);
            if (one.size() > longest.size()) {
                longest = one;
            }
        }
        above.remove(above.size() - 1);
        way.addAll(longest);
        return way;
    }
}
