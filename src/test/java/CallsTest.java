import com.sun.source.tree.ClassTree;
import com.sun.source.tree.CompilationUnitTree;
import com.sun.source.tree.MethodInvocationTree;
import com.sun.source.tree.MethodTree;
import com.sun.source.tree.NewClassTree;
import com.sun.source.tree.Tree;
import com.sun.source.util.JavacTask;
import com.sun.source.util.TreePath;
import com.sun.source.util.TreePathScanner;
import com.sun.source.util.Trees;
import java.io.IOException;
import java.nio.file.Path;
import java.util.HashMap;
import java.util.HashSet;
import java.util.LinkedHashSet;
import java.util.List;
import java.util.Map;
import java.util.Set;
import java.util.TreeSet;
import javax.lang.model.element.Element;
import javax.lang.model.element.ElementKind;
import javax.lang.model.element.ExecutableElement;
import javax.lang.model.element.Modifier;
import javax.lang.model.element.TypeElement;
import javax.tools.JavaCompiler;
import javax.tools.StandardJavaFileManager;
import javax.tools.ToolProvider;

/**
 * The class's calls, as the compiler itself resolves them, beside ../shared/LANGUAGE.md: what of the library they
 * use (rule 4), which methods come back to themselves (rule 8), how deep they go (rule 11).
 */
final class CallsTest {
    private static final int DEEPEST = 8;
    private static final Set<String> LIBRARY = Set.of("Object.<init>", "String.length", "String.charAt",
        "Math.abs", "Math.max", "Math.min", "Integer.bitCount", "System.arraycopy");

    private final Due due = new Due();
    private final Map<Element, Set<Element>> calls = new HashMap<>();
    // What the fields of a class call belongs to each of its constructors.
    private final Map<Element, Set<Element>> fieldCalls = new HashMap<>();
    private final Set<String> library = new TreeSet<>();

    public static void main(String[] args) throws IOException {
        CallsTest test = new CallsTest();
        test.readClass();
        test.library();
        test.depth();
        test.recursion();
        test.due.end();
    }

    private void readClass() throws IOException {
        JavaCompiler compiler = ToolProvider.getSystemJavaCompiler();
        try (StandardJavaFileManager files = compiler.getStandardFileManager(null, null, null)) {
            JavacTask task = (JavacTask) compiler.getTask(null, files, null, List.of("-proc:none"), null,
                files.getJavaFileObjects(Path.of("src/main/java/WeighedGate.java")));
            Iterable<? extends CompilationUnitTree> units = task.parse();
            task.analyze();
            Trees trees = Trees.instance(task);
            for (CompilationUnitTree unit : units) {
                new Calls(trees).scan(unit, null);
            }
        }
        calls.forEach((method, called) -> {
            if (method.getKind() == ElementKind.CONSTRUCTOR) {
                called.addAll(fieldCalls.getOrDefault(method.getEnclosingElement(), Set.of()));
            }
        });
        calls.values().forEach(called -> called.removeIf(other -> !calls.containsKey(other)));
        due.holds("methods were seen", calls.size() > 100);
    }

    /** Notes each call beside the method, or the class, in which it stands. */
    private final class Calls extends TreePathScanner<Void, Void> {
        private final Trees trees;

        Calls(Trees trees) {
            this.trees = trees;
        }

        @Override
        public Void visitMethod(MethodTree method, Void none) {
            calls.computeIfAbsent(trees.getElement(getCurrentPath()), key -> new LinkedHashSet<>());
            return super.visitMethod(method, none);
        }

        @Override
        public Void visitMethodInvocation(MethodInvocationTree call, Void none) {
            note(trees.getElement(getCurrentPath()));
            return super.visitMethodInvocation(call, none);
        }

        @Override
        public Void visitNewClass(NewClassTree made, Void none) {
            note(trees.getElement(getCurrentPath()));
            return super.visitNewClass(made, none);
        }

        private void note(Element called) {
            TreePath path = getCurrentPath();
            while (!(path.getLeaf() instanceof MethodTree) && !(path.getLeaf() instanceof ClassTree)) {
                path = path.getParentPath();
            }
            boolean inMethod = path.getLeaf().getKind() == Tree.Kind.METHOD;
            (inMethod ? calls : fieldCalls).computeIfAbsent(trees.getElement(path), key -> new LinkedHashSet<>())
                .add(called);
            TypeElement owner = (TypeElement) called.getEnclosingElement();
            if (!owner.getQualifiedName().toString().startsWith("WeighedGate")) {
                library.add(owner.getSimpleName() + "." + called.getSimpleName());
            }
        }
    }

    private void library() {
        for (String used : library) {
            due.holds("the library's " + used + " is one that rule 4 lists", LIBRARY.contains(used));
        }
        due.holds("the library is used", !library.isEmpty());
    }

    private void depth() {
        for (Element method : calls.keySet()) {
            if (method.getModifiers().contains(Modifier.PUBLIC)) {
                String chain = deepest(method, new HashSet<>());
                due.holds("at most eight deep: " + chain, chain.split(" ").length <= DEEPEST);
            }
        }
    }

    /** The longest chain of calls from a method on in which none comes twice. */
    private String deepest(Element method, Set<Element> open) {
        open.add(method);
        String longest = "";
        int most = 0;
        for (Element called : calls.get(method)) {
            if (!open.contains(called)) {
                String chain = deepest(called, open);
                int length = chain.split(" ").length;
                if (length > most) {
                    most = length;
                    longest = " " + chain;
                }
            }
        }
        open.remove(method);
        return ((ExecutableElement) method).getSimpleName() + longest;
    }

    private void recursion() {
        int seen = 0;
        for (Element method : calls.keySet()) {
            if (reaches(method, method, new HashSet<>())) {
                due.holds(method + " comes back to itself and is private",
                    method.getModifiers().contains(Modifier.PRIVATE));
                seen++;
            }
        }
        due.holds("recursion was seen", seen > 0);
    }

    private boolean reaches(Element from, Element to, Set<Element> passed) {
        for (Element called : calls.get(from)) {
            if (called == to || passed.add(called) && reaches(called, to, passed)) {
                return true;
            }
        }
        return false;
    }
}
