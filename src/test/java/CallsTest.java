import com.sun.source.tree.BinaryTree;
import com.sun.source.tree.DoWhileLoopTree;
import com.sun.source.tree.EnhancedForLoopTree;
import com.sun.source.tree.ForLoopTree;
import com.sun.source.tree.LiteralTree;
import com.sun.source.tree.MethodInvocationTree;
import com.sun.source.tree.MethodTree;
import com.sun.source.tree.NewArrayTree;
import com.sun.source.tree.NewClassTree;
import com.sun.source.tree.Tree;
import com.sun.source.tree.TypeCastTree;
import com.sun.source.tree.VariableTree;
import com.sun.source.tree.WhileLoopTree;
import com.sun.source.util.JavacTask;
import com.sun.source.util.TreePathScanner;
import com.sun.source.util.Trees;
import java.io.IOException;
import java.nio.file.Path;
import java.util.EnumSet;
import java.util.HashSet;
import java.util.Map;
import java.util.Set;
import java.util.TreeMap;
import java.util.TreeSet;
import javax.lang.model.element.Element;
import javax.lang.model.element.ElementKind;
import javax.lang.model.element.ExecutableElement;
import javax.lang.model.element.Modifier;
import javax.lang.model.type.TypeMirror;
import javax.tools.JavaCompiler;
import javax.tools.StandardJavaFileManager;
import javax.tools.ToolProvider;

/** LANGUAGE.md's rules that ask what calls what, seen in the source as the compiler reads it. */
public final class CallsTest extends TreePathScanner<Void, Void> {
    private static final int DEEPEST = 8;
    private static final Set<String> LIBRARY = Set.of("String.length", "String.charAt", "String.indexOf", "Math.max",
        "Math.min", "Math.abs", "Math.floorMod", "System.arraycopy", "Arrays.fill", "Object.<init>");
    /** Divisors that are no written numbers; each is tested on the line ahead, or by the loop. */
    private static final Set<String> DIVISORS = Set.of("common", "b");
    private static final Set<Tree.Kind> LEFT_OUT = EnumSet.of(Tree.Kind.THROW, Tree.Kind.TRY, Tree.Kind.SYNCHRONIZED,
        Tree.Kind.ASSERT, Tree.Kind.LAMBDA_EXPRESSION, Tree.Kind.MEMBER_REFERENCE, Tree.Kind.ANNOTATION);
    private static final Due due = new Due();

    private final Trees trees;
    private final Map<String, Set<String>> calls = new TreeMap<>();
    private final Map<String, ExecutableElement> methods = new TreeMap<>();
    private String method = "";
    private int loops;

    private CallsTest(Trees trees) {
        this.trees = trees;
    }

    public static void main(String[] args) throws IOException {
        Path source = Path.of(args.length > 0 ? args[0] : ".").resolve("src/main/java/ByLot.java");
        JavaCompiler compiler = ToolProvider.getSystemJavaCompiler();
        try (StandardJavaFileManager files = compiler.getStandardFileManager(null, null, null)) {
            JavacTask task = (JavacTask) compiler.getTask(null, files, null, null, null, files.getJavaFileObjects(source));
            CallsTest scan = new CallsTest(Trees.instance(task));
            Iterable<? extends Tree> units = task.parse();
            task.analyze();
            units.forEach(unit -> scan.scan(unit, null));
            scan.deep();
            scan.recurring();
        }
        due.end("CallsTest");
    }

    @Override
    public Void scan(Tree tree, Void none) {
        if (tree != null) {
            due.holds("no " + tree.getKind() + " in " + method, !LEFT_OUT.contains(tree.getKind()));
        }
        return super.scan(tree, none);
    }

    @Override
    public Void visitMethod(MethodTree tree, Void none) {
        ExecutableElement element = (ExecutableElement) trees.getElement(getCurrentPath());
        String before = method;
        method = name(element);
        calls.putIfAbsent(method, new TreeSet<>());
        methods.put(method, element);
        super.visitMethod(tree, none);
        method = before;
        return null;
    }

    @Override
    public Void visitVariable(VariableTree tree, Void none) {
        Element element = trees.getElement(getCurrentPath());
        String before = method;
        if (element.getKind() == ElementKind.FIELD && !element.getModifiers().contains(Modifier.STATIC)) {
            method = element.getEnclosingElement().getSimpleName() + ".<init>";
            calls.putIfAbsent(method, new TreeSet<>());
        }
        super.visitVariable(tree, none);
        method = before;
        return null;
    }

    @Override
    public Void visitMethodInvocation(MethodInvocationTree tree, Void none) {
        called(trees.getElement(getCurrentPath()));
        return super.visitMethodInvocation(tree, none);
    }

    @Override
    public Void visitNewClass(NewClassTree tree, Void none) {
        called(trees.getElement(getCurrentPath()));
        madeHere("an object");
        due.holds("no anonymous class in " + method, tree.getClassBody() == null);
        return super.visitNewClass(tree, none);
    }

    @Override
    public Void visitNewArray(NewArrayTree tree, Void none) {
        madeHere("an array");
        return super.visitNewArray(tree, none);
    }

    private void madeHere(String what) {
        due.holds(what + " made in a loop of " + method, loops == 0 || method.endsWith(".<init>"));
    }

    private void called(Element element) {
        String name = name(element);
        if (name.matches("(String|Math|System|Arrays|Object|Integer|Long|StringBuilder)\\..*")) {
            due.holds(name + " is of the library that is left", LIBRARY.contains(name));
        } else if (!method.isEmpty()) {
            calls.get(method).add(name);
        }
    }

    private static String name(Element method) {
        return method.getEnclosingElement().getSimpleName() + "." + method.getSimpleName();
    }

    @Override
    public Void visitForLoop(ForLoopTree tree, Void none) {
        String asked = String.valueOf(tree.getCondition());
        due.holds("a loop of " + method + " counts: " + asked, tree.getUpdate().size() == 1 && asked.matches(".*[<>].*"));
        loops++;
        super.visitForLoop(tree, none);
        loops--;
        return null;
    }

    @Override
    public Void visitEnhancedForLoop(EnhancedForLoopTree tree, Void none) {
        loops++;
        super.visitEnhancedForLoop(tree, none);
        loops--;
        return null;
    }

    @Override
    public Void visitWhileLoop(WhileLoopTree tree, Void none) {
        due.holds("no while in " + method, false);
        return super.visitWhileLoop(tree, none);
    }

    @Override
    public Void visitDoWhileLoop(DoWhileLoopTree tree, Void none) {
        due.holds("no do in " + method, false);
        return super.visitDoWhileLoop(tree, none);
    }

    @Override
    public Void visitBinary(BinaryTree tree, Void none) {
        if (tree.getKind() == Tree.Kind.DIVIDE || tree.getKind() == Tree.Kind.REMAINDER) {
            boolean number = tree.getRightOperand() instanceof LiteralTree written && !written.getValue().equals(0);
            due.holds("divided in " + method + ": " + tree, number || DIVISORS.contains(tree.getRightOperand().toString()));
        }
        TypeMirror type = trees.getTypeMirror(getCurrentPath());
        due.holds("joined in " + method + ": " + tree, type.getKind().isPrimitive());
        return super.visitBinary(tree, none);
    }

    @Override
    public Void visitTypeCast(TypeCastTree tree, Void none) {
        due.holds("cast in " + method + ": " + tree, trees.getTypeMirror(getCurrentPath()).getKind().isPrimitive());
        return super.visitTypeCast(tree, none);
    }

    /** Calls that are no recursion go at most eight deep; those of a recursion do not count. */
    private void deep() {
        Map<String, Integer> known = new TreeMap<>();
        for (String name : calls.keySet()) {
            due.holds(name + " goes " + depth(name, known) + " deep", depth(name, known) <= DEEPEST);
        }
    }

    private int depth(String name, Map<String, Integer> known) {
        Integer told = known.get(name);
        if (told != null) {
            return told;
        }
        Set<String> circle = circle(name);
        int deepest = 0;
        for (String one : circle.isEmpty() ? Set.of(name) : circle) {
            for (String next : calls.getOrDefault(one, Set.of())) {
                deepest = circle.contains(next) ? deepest : Math.max(deepest, depth(next, known));
            }
        }
        known.put(name, deepest + (circle.isEmpty() ? 1 : 0));
        return known.get(name);
    }

    /** Those that it calls, near or far, and that call it; itself, too, if it recurs. */
    private Set<String> circle(String name) {
        Set<String> circle = new HashSet<>();
        for (String other : reached(name)) {
            if (reached(other).contains(name)) {
                circle.add(other);
            }
        }
        return circle;
    }

    private Set<String> reached(String name) {
        Set<String> all = new HashSet<>(calls.getOrDefault(name, Set.of()));
        boolean more = true;
        while (more) {
            Set<String> next = new HashSet<>(all);
            all.forEach(one -> next.addAll(calls.getOrDefault(one, Set.of())));
            more = all.addAll(next);
        }
        return all;
    }

    /** What recurs is private; alone it is static, too; and its depth is carried as an argument. */
    private void recurring() {
        for (Map.Entry<String, ExecutableElement> entry : methods.entrySet()) {
            Set<String> circle = circle(entry.getKey());
            Set<Modifier> words = entry.getValue().getModifiers();
            if (!circle.isEmpty()) {
                due.holds(entry.getKey() + " recurs and is private", words.contains(Modifier.PRIVATE));
                due.holds(entry.getKey() + " recurs alone and is static", circle.size() > 1 || words.contains(Modifier.STATIC));
                due.holds(entry.getKey() + " carries its depth", entry.getValue().getParameters().stream()
                    .anyMatch(p -> p.getSimpleName().toString().matches("depth|k")));
            }
        }
    }
}
