import com.sun.source.tree.ClassTree;
import com.sun.source.tree.CompilationUnitTree;
import com.sun.source.tree.ForLoopTree;
import com.sun.source.tree.MethodInvocationTree;
import com.sun.source.tree.MethodTree;
import com.sun.source.tree.NewArrayTree;
import com.sun.source.tree.NewClassTree;
import com.sun.source.tree.Tree;
import com.sun.source.tree.VariableTree;
import com.sun.source.util.JavacTask;
import com.sun.source.util.TreePath;
import com.sun.source.util.TreePathScanner;
import com.sun.source.util.Trees;
import java.io.IOException;
import java.nio.file.Path;
import java.util.EnumSet;
import java.util.HashSet;
import java.util.List;
import java.util.Map;
import java.util.Set;
import java.util.TreeMap;
import java.util.TreeSet;
import javax.lang.model.element.Element;
import javax.lang.model.element.ExecutableElement;
import javax.lang.model.element.Modifier;
import javax.lang.model.element.TypeElement;
import javax.tools.JavaCompiler;
import javax.tools.StandardJavaFileManager;
import javax.tools.ToolProvider;

/**
 * The rules of LANGUAGE.md as the compiler's tree shows them: what is called, of which types things are, how deep calls
 * go. It keeps the class to less than the rules leave (no while, no lists, nothing made in a call), as it needs no more.
 */
final class RulesTest {
    private static final Check CHECK = new Check("RulesTest");
    private static final Path SOURCE = Path.of("src/main/java/BentPicture.java");
    private static final int MOST_DEEP = 8;
    private static final Set<String> LIBRARY = Set.of("java.lang.Math.max", "java.lang.Math.min", "java.lang.Math.floorMod",
        "java.lang.Math.abs", "java.util.Arrays.fill", "java.lang.Object.<init>");
    private static final Set<String> PLAIN_TYPES = Set.of("int", "boolean", "int[]", "long", "long[]");
    private static final Set<Tree.Kind> RULED_OUT = EnumSet.of(Tree.Kind.LAMBDA_EXPRESSION, Tree.Kind.MEMBER_REFERENCE,
        Tree.Kind.THROW, Tree.Kind.TRY, Tree.Kind.CATCH, Tree.Kind.SYNCHRONIZED, Tree.Kind.ASSERT, Tree.Kind.WHILE_LOOP,
        Tree.Kind.DO_WHILE_LOOP, Tree.Kind.TYPE_CAST, Tree.Kind.INSTANCE_OF, Tree.Kind.FLOAT_LITERAL,
        Tree.Kind.DOUBLE_LITERAL, Tree.Kind.ANNOTATION, Tree.Kind.SWITCH_EXPRESSION);

    private static final Map<String, Set<String>> CALLS = new TreeMap<>();
    private static final Set<String> KINDS_OUT = new TreeSet<>();
    private static int loops = 0;
    private static Trees trees;

    private RulesTest() {
    }

    public static void main(String[] args) throws IOException {
        JavaCompiler compiler = ToolProvider.getSystemJavaCompiler();
        CHECK.due("the compiler is at hand", compiler != null, true);
        if (compiler != null) {
            read(compiler);
            CHECK.due("kinds that are ruled out " + KINDS_OUT, KINDS_OUT.isEmpty(), true);
            CHECK.due("methods were read", CALLS.size() > 60, true);
            CHECK.due("loops were read", loops > 20, true);
            depths();
        }
        CHECK.end();
    }

    private static void read(JavaCompiler compiler) throws IOException {
        try (StandardJavaFileManager files = compiler.getStandardFileManager(null, null, null)) {
            JavacTask task = (JavacTask) compiler.getTask(null, files, null, List.of("-proc:none"), null,
                files.getJavaFileObjects(SOURCE));
            Iterable<? extends CompilationUnitTree> units = task.parse();
            task.analyze();
            trees = Trees.instance(task);
            for (CompilationUnitTree unit : units) {
                CHECK.due("no package line", unit.getPackageName() == null, true);
                CHECK.due("one class in the file", unit.getTypeDecls().size(), 1);
                new Reader().scan(unit, null);
            }
        }
    }

    /** How deep calls go from each method on, and that none comes back to itself. */
    private static void depths() {
        Map<String, Integer> known = new TreeMap<>();
        for (String method : CALLS.keySet()) {
            int depth = depth(method, known, new HashSet<>());
            CHECK.due(method + " goes " + depth + " deep", depth <= MOST_DEEP, true);
        }
    }

    private static int depth(String method, Map<String, Integer> known, Set<String> open) {
        if (known.containsKey(method)) {
            return known.get(method);
        }
        boolean comesBack = !open.add(method);
        CHECK.due(method + " comes back to itself", comesBack, false);
        int deepest = 0;
        for (String called : comesBack ? Set.<String>of() : CALLS.getOrDefault(method, Set.of())) {
            deepest = Math.max(deepest, depth(called, known, open));
        }
        open.remove(method);
        known.put(method, deepest + 1);
        return deepest + 1;
    }

    private static final class Reader extends TreePathScanner<Void, Void> {
        private String method = "";

        @Override
        public Void scan(Tree tree, Void nothing) {
            if (tree != null && RULED_OUT.contains(tree.getKind())) {
                KINDS_OUT.add(tree.getKind() + " in " + method);
            }
            return super.scan(tree, nothing);
        }

        @Override
        public Void visitClass(ClassTree tree, Void nothing) {
            Element at = trees.getElement(getCurrentPath());
            boolean inside = at.getEnclosingElement() instanceof TypeElement;
            CHECK.due(at + " is static", !inside || at.getModifiers().contains(Modifier.STATIC), true);
            CHECK.due(at + " is final", at.getModifiers().contains(Modifier.FINAL), true);
            return super.visitClass(tree, nothing);
        }

        @Override
        public Void visitMethod(MethodTree tree, Void nothing) {
            String before = method;
            method = name((ExecutableElement) trees.getElement(getCurrentPath()));
            CHECK.due(method + " is told once", CALLS.containsKey(method), false);
            CALLS.put(method, new TreeSet<>());
            if (tree.getReturnType() != null) {
                String type = tree.getReturnType().toString();
                CHECK.due(method + " answers " + type, PLAIN_TYPES.contains(type) || type.equals("void"), true);
            }
            super.visitMethod(tree, nothing);
            method = before;
            return null;
        }

        @Override
        public Void visitVariable(VariableTree tree, Void nothing) {
            String type = tree.getType().toString();
            Element of = trees.getElement(new TreePath(getCurrentPath(), tree.getType()));
            boolean own = of instanceof TypeElement && isOwn(of);
            CHECK.due(tree.getName() + " is " + type, own || PLAIN_TYPES.contains(type), true);
            Set<Modifier> modifiers = tree.getModifiers().getFlags();
            boolean constant = modifiers.contains(Modifier.STATIC);
            CHECK.due(tree.getName() + " if static is a constant number",
                !constant || modifiers.contains(Modifier.FINAL) && type.equals("int"), true);
            return super.visitVariable(tree, nothing);
        }

        @Override
        public Void visitMethodInvocation(MethodInvocationTree tree, Void nothing) {
            ExecutableElement called = (ExecutableElement) trees.getElement(getCurrentPath());
            if (isOwn(called)) {
                CHECK.due("calls stand in methods", CALLS.containsKey(method), true);
                CALLS.getOrDefault(method, new TreeSet<>()).add(name(called));
            } else {
                String full = called.getEnclosingElement() + "." + called.getSimpleName();
                CHECK.due(full + " is of the library left", LIBRARY.contains(full), true);
            }
            return super.visitMethodInvocation(tree, nothing);
        }

        @Override
        public Void visitForLoop(ForLoopTree tree, Void nothing) {
            loops++;
            CHECK.due("a loop of " + method + " has a bound", String.valueOf(tree.getCondition())
                .matches(".*\\b\\w+ (<|<=|>=|>) .*"), true);
            CHECK.due("a loop of " + method + " counts", tree.getUpdate().size(), 1);
            return super.visitForLoop(tree, nothing);
        }

        @Override
        public Void visitNewArray(NewArrayTree tree, Void nothing) {
            madeWithTheObject(tree);
            for (Tree length : tree.getDimensions()) {
                CHECK.due("a row's length is a constant: " + length, length.toString().matches("[A-Z_]+"), true);
            }
            return super.visitNewArray(tree, nothing);
        }

        @Override
        public Void visitNewClass(NewClassTree tree, Void nothing) {
            madeWithTheObject(tree);
            CHECK.due("no class without a name: " + tree, tree.getClassBody() == null, true);
            return super.visitNewClass(tree, nothing);
        }

        /** The room of a run stays small, as rows and objects are made in constructors and used again. */
        private void madeWithTheObject(Tree made) {
            CHECK.due(made + " is made in a constructor", method.isEmpty() || method.contains("<init>"), true);
        }

        private static boolean isOwn(Element it) {
            return (it.toString() + " of " + it.getEnclosingElement()).contains("BentPicture");
        }

        private static String name(ExecutableElement it) {
            return it.getEnclosingElement() + "." + it.getSimpleName();
        }
    }
}
