import com.sun.source.tree.CompilationUnitTree;
import com.sun.source.tree.MethodInvocationTree;
import com.sun.source.tree.MethodTree;
import com.sun.source.util.JavacTask;
import com.sun.source.util.TreePathScanner;
import com.sun.source.util.Trees;
import java.io.IOException;
import java.nio.file.Path;
import java.util.ArrayList;
import java.util.LinkedHashMap;
import java.util.LinkedHashSet;
import java.util.List;
import java.util.Map;
import java.util.Set;
import java.util.TreeSet;
import javax.lang.model.element.Element;
import javax.lang.model.element.Modifier;
import javax.tools.JavaCompiler;
import javax.tools.StandardJavaFileManager;
import javax.tools.ToolProvider;

/** What ../shared/LANGUAGE.md says of calls (rules 1, 4, 8 and 11), seen by the compiler; run in the project's folder. */
public final class CallsWithinTest {
    private static final Path PROGRAM = Path.of("src/main/java/LentParts.java");
    private static final int DEEPEST = 8;
    private static final Set<String> LIBRARY = Set.of(
        "java.lang.System.arraycopy", "java.util.Arrays.fill", "java.lang.Math.min", "java.lang.Math.max", "java.lang.Integer.bitCount",
        "java.lang.Object.<init>");

    /** For each method of the program those that it calls. */
    private final Map<Element, Set<Element>> called = new LinkedHashMap<>();

    private CallsWithinTest() {
    }

    public static void main(String[] args) throws IOException {
        JavaCompiler compiler = ToolProvider.getSystemJavaCompiler();
        try (StandardJavaFileManager files = compiler.getStandardFileManager(null, null, null)) {
            JavacTask task = (JavacTask) compiler.getTask(null, files, null, List.of("-proc:none"), null, files.getJavaFileObjects(PROGRAM));
            CallsWithinTest test = new CallsWithinTest();
            Iterable<? extends CompilationUnitTree> units = task.parse();
            task.analyze();
            for (CompilationUnitTree unit : units) {
                test.collect(unit, Trees.instance(task));
            }
            test.look();
        }
        Due.end();
    }

    private void collect(CompilationUnitTree unit, Trees trees) {
        new TreePathScanner<Void, Element>() {
            @Override
            public Void visitMethod(MethodTree method, Element outer) {
                Element element = trees.getElement(getCurrentPath());
                called.put(element, new LinkedHashSet<>());
                return super.visitMethod(method, element);
            }

            @Override
            public Void visitMethodInvocation(MethodInvocationTree call, Element caller) {
                called.get(caller).add(trees.getElement(getCurrentPath()));
                return super.visitMethodInvocation(call, caller);
            }
        }.scan(unit, null);
    }

    private void look() {
        Set<String> publicNames = new TreeSet<>();
        for (Element method : called.keySet()) {
            if (method.getModifiers().contains(Modifier.PUBLIC)) {
                publicNames.add(method.getSimpleName().toString());
            }
        }
        Due.is("public methods, and the constructor", publicNames.size(), 24);
        for (Element method : called.keySet()) {
            String name = method.getSimpleName().toString();
            boolean isPublic = method.getModifiers().contains(Modifier.PUBLIC);
            Due.holds("the name of " + named(method) + " is not that of a public method", isPublic || name.equals("<init>") || !publicNames.contains(name));
            List<Element> open = new ArrayList<>();
            int deep = deepest(method, open);
            Due.holds(named(method) + " goes at most " + DEEPEST + " deep: " + deep, deep <= DEEPEST);
            calls(method);
        }
    }

    private void calls(Element method) {
        for (Element other : called.get(method)) {
            if (!called.containsKey(other)) {
                Due.holds("the library has " + named(other), LIBRARY.contains(named(other)));
            } else if (other.equals(method)) {
                Set<Modifier> modifiers = method.getModifiers();
                Due.holds(named(method) + " calls itself: private and static", modifiers.contains(Modifier.PRIVATE) && modifiers.contains(Modifier.STATIC));
            }
        }
    }

    /** How many methods are open at once at most, the library's too; one that calls itself counts once. */
    private int deepest(Element method, List<Element> open) {
        int deepest = 0;
        open.add(method);
        for (Element other : called.getOrDefault(method, Set.of())) {
            if (!open.contains(other)) {
                deepest = Math.max(deepest, deepest(other, open));
            }
        }
        open.remove(method);
        return deepest + 1;
    }

    private static String named(Element method) {
        return method.getEnclosingElement() + "." + method.getSimpleName();
    }
}
