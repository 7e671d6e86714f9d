import com.sun.source.tree.BinaryTree;
import com.sun.source.tree.ClassTree;
import com.sun.source.tree.CompilationUnitTree;
import com.sun.source.tree.ExpressionTree;
import com.sun.source.tree.MethodInvocationTree;
import com.sun.source.tree.MethodTree;
import com.sun.source.tree.NewClassTree;
import com.sun.source.tree.Tree;
import com.sun.source.util.JavacTask;
import com.sun.source.util.TreePath;
import com.sun.source.util.TreePathScanner;
import com.sun.source.util.Trees;
import java.io.IOException;
import java.nio.file.Path;
import java.util.EnumSet;
import java.util.LinkedHashMap;
import java.util.LinkedHashSet;
import java.util.List;
import java.util.Map;
import java.util.Set;
import javax.lang.model.element.Element;
import javax.lang.model.element.ElementKind;
import javax.lang.model.element.Modifier;
import javax.lang.model.element.NestingKind;
import javax.lang.model.element.TypeElement;
import javax.lang.model.type.TypeMirror;
import javax.tools.JavaCompiler;
import javax.tools.StandardJavaFileManager;
import javax.tools.ToolProvider;

/** The rules of LANGUAGE.md that need the compiler's own reading of the source: kinds of code, library, calls and their depth. */
public final class SourceTreeTest {
    private static final Checker CHECKER = new Checker("SourceTreeTest");
    private static final Set<Tree.Kind> FORBIDDEN = EnumSet.of(Tree.Kind.LAMBDA_EXPRESSION, Tree.Kind.MEMBER_REFERENCE,
            Tree.Kind.TRY, Tree.Kind.CATCH, Tree.Kind.THROW, Tree.Kind.SYNCHRONIZED, Tree.Kind.ASSERT, Tree.Kind.IMPORT);
    /** Of Math, Integer and Long all but what ends in Exact; of the others just what rule 4 names. */
    private static final Map<String, Set<String>> LIBRARY = Map.of(
            "java.lang.Math", Set.of(),
            "java.lang.Integer", Set.of(),
            "java.lang.Long", Set.of(),
            "java.lang.System", Set.of("arraycopy"),
            "java.util.Arrays", Set.of("copyOf", "copyOfRange", "fill"),
            "java.lang.String", Set.of("<init>", "length", "charAt", "isEmpty", "equals", "indexOf", "substring", "toCharArray"),
            "java.lang.StringBuilder", Set.of("<init>", "append", "charAt", "setCharAt", "setLength", "deleteCharAt", "reverse",
                    "length", "toString"),
            "java.util.ArrayList", Set.of("<init>", "add", "get", "set", "remove", "size", "isEmpty", "clear"),
            "java.util.List", Set.of("of", "add", "get", "set", "remove", "size", "isEmpty", "clear"));

    private final Trees trees;
    private final CompilationUnitTree unit;
    private final Map<Element, Set<Element>> calls = new LinkedHashMap<>();
    private final Set<Element> library = new LinkedHashSet<>();

    private SourceTreeTest(Trees trees, CompilationUnitTree unit) {
        this.trees = trees;
        this.unit = unit;
    }

    public static void main(String[] args) throws IOException {
        Path source = Path.of(args.length > 0 ? args[0] : "src/main/java/FrameDeltas.java");
        JavaCompiler compiler = ToolProvider.getSystemJavaCompiler();
        try (StandardJavaFileManager files = compiler.getStandardFileManager(null, null, null)) {
            JavacTask task = (JavacTask) compiler.getTask(null, files, null, List.of("-proc:none"), null,
                    files.getJavaFileObjects(source));
            CompilationUnitTree unit = task.parse().iterator().next();
            task.analyze();
            SourceTreeTest test = new SourceTreeTest(Trees.instance(task), unit);
            test.new Scanner().scan(unit, null);
            test.depths();
            test.library();
        }
        CHECKER.finish();
    }

    /** Each method's longest row of calls, the library's last call counted; 99 where it calls itself. */
    private int depth(Element method, Set<Element> open) {
        if (!open.add(method)) {
            return 99;
        }
        int deepest = 0;
        for (Element called : calls.getOrDefault(method, Set.of())) {
            deepest = Math.max(deepest, depth(called, open));
        }
        open.remove(method);
        return 1 + deepest;
    }

    private void depths() {
        for (Element method : calls.keySet()) {
            CHECKER.holds("rule 11: " + method + " goes at most eight calls deep", depth(method, new LinkedHashSet<>()) <= 8);
        }
    }

    private void library() {
        for (Element method : library) {
            String owner = ((TypeElement) method.getEnclosingElement()).getQualifiedName().toString();
            String name = method.getSimpleName().toString();
            Set<String> names = LIBRARY.getOrDefault(owner, Set.of("nothing"));
            CHECKER.holds("rule 4: " + owner + "." + method, names.isEmpty() || names.contains(name));
            CHECKER.holds("rule 4: " + method, !name.endsWith("Exact"));
        }
    }

    private final class Scanner extends TreePathScanner<Void, Void> {
        private Element method;

        @Override
        public Void scan(Tree tree, Void nothing) {
            if (tree != null && FORBIDDEN.contains(tree.getKind())) {
                CHECKER.holds("rule 2 or 6: no " + tree.getKind() + ": " + tree, false);
            }
            return super.scan(tree, nothing);
        }

        @Override
        public Void visitClass(ClassTree tree, Void nothing) {
            TypeElement type = (TypeElement) trees.getElement(getCurrentPath());
            boolean outermost = type.getNestingKind() == NestingKind.TOP_LEVEL;
            boolean inside = type.getNestingKind() == NestingKind.MEMBER && type.getModifiers().contains(Modifier.STATIC);
            CHECKER.holds("rule 2: " + type + " is a static class inside or the outermost one", outermost || inside);
            return super.visitClass(tree, nothing);
        }

        @Override
        public Void visitMethod(MethodTree tree, Void nothing) {
            method = trees.getElement(getCurrentPath());
            calls.put(method, new LinkedHashSet<>());
            CHECKER.holds("rule 11: parameters of " + method, tree.getParameters().size() <= 7);
            long lines = lineOf(tree, true) - lineOf(tree, false) + 1;
            CHECKER.holds("rule 11: lines of " + method, lines <= 60);
            return super.visitMethod(tree, nothing);
        }

        private long lineOf(Tree tree, boolean end) {
            long at = end ? trees.getSourcePositions().getEndPosition(unit, tree)
                    : trees.getSourcePositions().getStartPosition(unit, tree);
            return unit.getLineMap().getLineNumber(at);
        }

        @Override
        public Void visitMethodInvocation(MethodInvocationTree tree, Void nothing) {
            called(trees.getElement(new TreePath(getCurrentPath(), tree.getMethodSelect())));
            return super.visitMethodInvocation(tree, nothing);
        }

        @Override
        public Void visitNewClass(NewClassTree tree, Void nothing) {
            CHECKER.holds("rule 2: no anonymous class", tree.getClassBody() == null);
            called(trees.getElement(getCurrentPath()));
            return super.visitNewClass(tree, nothing);
        }

        private void called(Element what) {
            boolean own = trees.getTree(what) != null;
            boolean implicit = what.getKind() == ElementKind.CONSTRUCTOR && what.getSimpleName().contentEquals("<init>")
                    && what.getEnclosingElement().toString().equals("java.lang.Object");
            if (method != null && !implicit) {
                calls.get(method).add(what);
            }
            if (!own && !implicit) {
                library.add(what);
            }
        }

        @Override
        public Void visitBinary(BinaryTree tree, Void nothing) {
            boolean texts = isText(tree.getLeftOperand()) || isText(tree.getRightOperand());
            boolean joins = tree.getKind() == Tree.Kind.PLUS;
            boolean compares = tree.getKind() == Tree.Kind.EQUAL_TO || tree.getKind() == Tree.Kind.NOT_EQUAL_TO;
            CHECKER.holds("rules 6 and 10: no texts in " + tree, !(texts && (joins || compares)));
            return super.visitBinary(tree, nothing);
        }

        private boolean isText(ExpressionTree tree) {
            TypeMirror type = trees.getTypeMirror(new TreePath(getCurrentPath(), tree));
            return type != null && type.toString().equals("java.lang.String");
        }
    }
}
