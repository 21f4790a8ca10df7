import com.sun.source.tree.ArrayTypeTree;
import com.sun.source.tree.AssertTree;
import com.sun.source.tree.ClassTree;
import com.sun.source.tree.CompilationUnitTree;
import com.sun.source.tree.DoWhileLoopTree;
import com.sun.source.tree.ForLoopTree;
import com.sun.source.tree.IdentifierTree;
import com.sun.source.tree.LambdaExpressionTree;
import com.sun.source.tree.MemberReferenceTree;
import com.sun.source.tree.MethodInvocationTree;
import com.sun.source.tree.MethodTree;
import com.sun.source.tree.NewArrayTree;
import com.sun.source.tree.NewClassTree;
import com.sun.source.tree.SynchronizedTree;
import com.sun.source.tree.ThrowTree;
import com.sun.source.tree.Tree;
import com.sun.source.tree.TryTree;
import com.sun.source.tree.TypeCastTree;
import com.sun.source.tree.VariableTree;
import com.sun.source.tree.WhileLoopTree;
import com.sun.source.util.JavacTask;
import com.sun.source.util.SourcePositions;
import com.sun.source.util.TreePath;
import com.sun.source.util.TreePathScanner;
import com.sun.source.util.Trees;
import java.io.IOException;
import java.nio.file.Path;
import java.util.LinkedHashSet;
import java.util.List;
import java.util.Map;
import java.util.Set;
import java.util.TreeMap;
import javax.lang.model.element.Element;
import javax.lang.model.element.ElementKind;
import javax.lang.model.element.Modifier;
import javax.lang.model.type.TypeKind;
import javax.lang.model.type.TypeMirror;
import javax.tools.JavaCompiler;
import javax.tools.StandardJavaFileManager;
import javax.tools.ToolProvider;

/**
 * The rules of LANGUAGE.md that the compiler's own tree of PageHold.java shows, by their numbers; some more
 * strictly than they are told (no while, nothing made outside constructors), as PageHold needs no more.
 */
public final class LanguageTest extends TreePathScanner<Void, Void> {
    private static final int DEEPEST = 8;
    private static final int LONGEST = 60;
    private static final int MOST_PARAMETERS = 7;
    private static final int MOST_CLASSES = 12;
    private static final int MOST_FIELDS = 20;
    /** What PageHold uses of the library; all of it is on rule 4's list, which has more. */
    private static final Set<String> LIBRARY = Set.of("java.lang.Math.min", "java.lang.Math.max",
        "java.util.Arrays.fill", "java.lang.System.arraycopy", "java.lang.Object.<init>");

    private final Trees trees;
    private final CompilationUnitTree unit;
    private final Map<String, Set<String>> calls = new TreeMap<>();
    private int classes = 0;
    private int methods = 0;
    private int wrong = 0;

    private LanguageTest(Trees trees, CompilationUnitTree unit) {
        this.trees = trees;
        this.unit = unit;
    }

    /** Another file may be named, to try the rules on. */
    public static void main(String[] args) throws IOException {
        Path path = Path.of(args.length > 0 ? args[0] : "src/main/java/PageHold.java");
        JavaCompiler compiler = ToolProvider.getSystemJavaCompiler();
        try (StandardJavaFileManager files = compiler.getStandardFileManager(null, null, null)) {
            JavacTask task = (JavacTask) compiler.getTask(null, files, null,
                List.of("-proc:none"), null, files.getJavaFileObjects(path));
            CompilationUnitTree unit = task.parse().iterator().next();
            task.analyze();
            LanguageTest test = new LanguageTest(Trees.instance(task), unit);
            test.scan(unit, null);
            test.depths();
            test.due(unit, 11, "some twelve classes", test.classes >= 1 && test.classes <= MOST_CLASSES);
            System.out.println(test.classes + " classes, " + test.methods + " methods, " + test.wrong + " breaks of a rule");
            if (test.wrong != 0) System.exit(1);
        }
    }

    private void due(Tree where, int rule, String what, boolean holds) {
        if (!holds) {
            wrong++;
            System.out.println("line " + line(where, true) + ", rule " + rule + ": " + what);
        }
    }

    private void never(Tree where, int rule) {
        due(where, rule, "no " + where.getKind(), false);
    }

    private long line(Tree tree, boolean first) {
        SourcePositions at = trees.getSourcePositions();
        long place = first ? at.getStartPosition(unit, tree) : at.getEndPosition(unit, tree);
        return place < 0 ? 0 : unit.getLineMap().getLineNumber(place);
    }

    // ---- which methods call which

    private static String named(Element e) {
        return e.getEnclosingElement() + "." + e.getSimpleName();
    }

    private boolean isOwn(Element e) {
        return e != null && (e + ".").startsWith("PageHold.");
    }

    /** The method around a place; field initialisers run as part of the constructor. */
    private String around() {
        for (TreePath p = getCurrentPath(); p != null; p = p.getParentPath()) {
            if (p.getLeaf() instanceof MethodTree) return named(trees.getElement(p));
            if (p.getLeaf() instanceof ClassTree) return trees.getElement(p) + ".<init>";
        }
        return "";
    }

    private void call(Tree where, Element called) {
        if (called == null) {
            due(where, 4, "a call of nothing known", false);
            return;
        }
        calls.computeIfAbsent(around(), k -> new LinkedHashSet<>()).add(named(called));
        boolean own = isOwn(called.getEnclosingElement());
        due(where, 4, "library: " + named(called), own || LIBRARY.contains(named(called)));
    }

    private void depths() {
        for (String method : calls.keySet()) {
            int depth = depth(method, 1);
            due(unit, 11, method + " goes " + depth + " deep", depth <= DEEPEST);
        }
    }

    /** Ends early, far above what is allowed, where methods call one another in a circle (rule 8). */
    private int depth(String method, int before) {
        int deepest = 1;
        if (before > 3 * DEEPEST) return deepest;
        for (String called : calls.getOrDefault(method, Set.of())) {
            if (!called.equals("java.lang.Object.<init>")) deepest = Math.max(deepest, 1 + depth(called, before + 1));
        }
        return deepest;
    }

    // ---- the tree gone through

    @Override
    public Void visitClass(ClassTree tree, Void none) {
        classes++;
        boolean nested = getCurrentPath().getParentPath().getLeaf() != unit;
        Set<Modifier> flags = tree.getModifiers().getFlags();
        due(tree, 2, "static: " + tree.getSimpleName(), !nested || flags.contains(Modifier.STATIC));
        int fields = 0;
        for (Tree member : tree.getMembers()) {
            due(member, 5, "no initialiser block", member.getKind() != Tree.Kind.BLOCK);
            if (member instanceof VariableTree field) fields += field(field) ? 1 : 0;
        }
        due(tree, 11, "some twenty fields: " + fields, fields <= MOST_FIELDS);
        return super.visitClass(tree, none);
    }

    /** Whether it is a field of each object. */
    private boolean field(VariableTree field) {
        Set<Modifier> flags = field.getModifiers().getFlags();
        boolean isStatic = flags.contains(Modifier.STATIC);
        due(field, 5, "static is final and a number", !isStatic || flags.contains(Modifier.FINAL)
            && field.getType().getKind() == Tree.Kind.PRIMITIVE_TYPE);
        return !isStatic;
    }

    @Override
    public Void visitMethod(MethodTree tree, Void none) {
        methods++;
        due(tree, 11, "seven parameters", tree.getParameters().size() <= MOST_PARAMETERS);
        if (trees.getSourcePositions().getEndPosition(unit, tree) >= 0) {
            long lines = line(tree, false) - line(tree, true) + 1;
            due(tree, 11, "some sixty lines: " + lines, lines <= LONGEST);
        }
        return super.visitMethod(tree, none);
    }

    @Override
    public Void visitMethodInvocation(MethodInvocationTree tree, Void none) {
        call(tree, trees.getElement(getCurrentPath()));
        return super.visitMethodInvocation(tree, none);
    }

    @Override
    public Void visitNewClass(NewClassTree tree, Void none) {
        due(tree, 2, "no class without a name", tree.getClassBody() == null);
        due(tree, 12, "objects are made in constructors alone", around().endsWith(".<init>"));
        call(tree, trees.getElement(getCurrentPath()));
        return super.visitNewClass(tree, none);
    }

    @Override
    public Void visitNewArray(NewArrayTree tree, Void none) {
        due(tree, 12, "arrays are made in constructors alone", around().endsWith(".<init>"));
        return super.visitNewArray(tree, none);
    }

    @Override
    public Void visitArrayType(ArrayTypeTree tree, Void none) {
        due(tree, 3, "rows of numbers", tree.getType().getKind() == Tree.Kind.PRIMITIVE_TYPE);
        return super.visitArrayType(tree, none);
    }

    @Override
    public Void visitIdentifier(IdentifierTree tree, Void none) {
        Element e = trees.getElement(getCurrentPath());
        if (e != null && (e.getKind().isClass() || e.getKind().isInterface())) {
            String name = e.toString();
            boolean ofRule4 = name.equals("java.lang.Math") || name.equals("java.lang.System") || name.equals("java.util.Arrays");
            due(tree, 3, "type: " + name, isOwn(e) || ofRule4);
        }
        if (e != null && e.getKind() == ElementKind.LOCAL_VARIABLE) numberOrOwn(tree, e.asType());
        return super.visitIdentifier(tree, none);
    }

    private void numberOrOwn(Tree tree, TypeMirror type) {
        boolean own = type.getKind() == TypeKind.DECLARED && (type + ".").startsWith("PageHold.");
        due(tree, 3, "type: " + type, type.getKind().isPrimitive() || own);
    }

    @Override
    public Void visitTypeCast(TypeCastTree tree, Void none) {
        due(tree, 7, "casts of numbers alone", tree.getType().getKind() == Tree.Kind.PRIMITIVE_TYPE);
        return super.visitTypeCast(tree, none);
    }

    /** A bound that can be seen: what the loop counts stands in its condition, and its body leaves it alone. */
    @Override
    public Void visitForLoop(ForLoopTree tree, Void none) {
        boolean counts = false;
        if (tree.getInitializer().size() == 1 && tree.getInitializer().get(0) instanceof VariableTree counter) {
            String name = "\\b" + counter.getName() + "\\b";
            counts = tree.getUpdate().size() == 1 && tree.getCondition() != null
                && tree.getUpdate().get(0).toString().matches(name + "(\\+\\+|--);")
                && tree.getCondition().toString().matches(".*" + name + ".*")
                && !tree.getStatement().toString().matches("(?s).*" + name + " ?([-+*/]?=[^=]|\\+\\+|--).*");
        }
        due(tree, 9, "counts against a bound", counts);
        return super.visitForLoop(tree, none);
    }

    @Override
    public Void visitWhileLoop(WhileLoopTree tree, Void none) {
        never(tree, 9);
        return super.visitWhileLoop(tree, none);
    }

    @Override
    public Void visitDoWhileLoop(DoWhileLoopTree tree, Void none) {
        never(tree, 9);
        return super.visitDoWhileLoop(tree, none);
    }

    @Override
    public Void visitThrow(ThrowTree tree, Void none) {
        never(tree, 6);
        return super.visitThrow(tree, none);
    }

    @Override
    public Void visitTry(TryTree tree, Void none) {
        never(tree, 6);
        return super.visitTry(tree, none);
    }

    @Override
    public Void visitAssert(AssertTree tree, Void none) {
        never(tree, 6);
        return super.visitAssert(tree, none);
    }

    @Override
    public Void visitSynchronized(SynchronizedTree tree, Void none) {
        never(tree, 6);
        return super.visitSynchronized(tree, none);
    }

    @Override
    public Void visitLambdaExpression(LambdaExpressionTree tree, Void none) {
        never(tree, 2);
        return super.visitLambdaExpression(tree, none);
    }

    @Override
    public Void visitMemberReference(MemberReferenceTree tree, Void none) {
        never(tree, 2);
        return super.visitMemberReference(tree, none);
    }
}
