import java.io.IOException;
import java.lang.reflect.InvocationTargetException;
import java.lang.reflect.Method;
import java.net.URL;
import java.net.URLClassLoader;
import java.nio.file.Files;
import java.nio.file.Path;
import java.util.ArrayList;
import java.util.Comparator;
import java.util.List;
import java.util.Set;
import java.util.TreeSet;
import java.util.regex.Matcher;
import java.util.regex.Pattern;
import java.util.stream.Stream;
import javax.tools.JavaCompiler;
import javax.tools.StandardJavaFileManager;
import javax.tools.ToolProvider;

/** The calls of README.md answer what README.md says; run in the project's folder. */
public final class ReadmeTest {
    private static final Path README = Path.of("README.md");
    private static final String SHOWN = "ReadmeShown";
    /** A call, and behind it in a comment the number or constant that it answers. */
    private static final Pattern CALL = Pattern.compile("(x\\.(\\w+)\\(.*\\));\\s+// (-?\\d+|[A-Z_]+)(?::.*)?");
    private static final Pattern CONSTANT = Pattern.compile("\\| `([A-Z_]+)` \\| (-\\d) \\|.*");
    private static final Pattern ROW = Pattern.compile("\\| `(\\w+)\\(([^)]*)\\)`( \\*)? \\|.*");

    private final List<String> readme;
    private final Set<String> called = new TreeSet<>();
    private int blocks = 0;

    private ReadmeTest(List<String> readme) {
        this.readme = readme;
    }

    public static void main(String[] args) throws IOException, ReflectiveOperationException {
        ReadmeTest test = new ReadmeTest(Files.readAllLines(README));
        test.performShown();
        test.tables();
        test.howToRunTests();
        Due.end();
    }

    private void performShown() throws IOException, ReflectiveOperationException {
        Path folder = Files.createTempDirectory("readme");
        try {
            Path source = folder.resolve(SHOWN + ".java");
            Files.writeString(source, shown());
            Due.holds("what README.md shows can be compiled", compiles(source, folder));
            try (URLClassLoader loader = new URLClassLoader(new URL[] {folder.toUri().toURL()}, ReadmeTest.class.getClassLoader())) {
                Class<?> shown = loader.loadClass(SHOWN);
                for (int block = 1; block <= blocks; block++) {
                    perform(shown.getMethod("block" + block));
                }
            }
        } finally {
            remove(folder);
        }
    }

    private static void perform(Method block) throws IllegalAccessException {
        try {
            String[] wrong = ((String) block.invoke(null)).split("\n");
            for (String line : wrong) {
                Due.holds("README.md, " + line, line.isEmpty());
            }
        } catch (InvocationTargetException e) {
            throw new IllegalStateException(e.getCause());
        }
    }

    /** A class with a method for each block of code, which tells the lines that answer something else. */
    private String shown() {
        StringBuilder source = new StringBuilder("public class " + SHOWN + " {\n");
        boolean inBlock = false;
        for (int line = 0; line < readme.size(); line++) {
            String text = readme.get(line);
            if (text.equals("```java")) {
                inBlock = true;
                blocks++;
                source.append("public static String block").append(blocks).append("() { String wrong = \"\"; int got = 0;\n");
            } else if (text.equals("```")) {
                inBlock = false;
                source.append("return wrong; }\n");
            } else if (inBlock) {
                source.append(statement(line + 1, text)).append("\n");
            }
        }
        Due.holds("README.md has blocks of code, and each has an end", blocks > 5 && !inBlock);
        return source.append("}\n").toString();
    }

    private String statement(int line, String text) {
        Matcher call = CALL.matcher(text);
        if (!call.matches()) {
            Due.holds("README.md, line " + line + " tells no answer: " + text, !text.contains("//"));
            return text;
        }
        called.add(call.group(2));
        String due = call.group(3).matches("-?\\d+") ? call.group(3) : "LentParts." + call.group(3);
        return "got = " + call.group(1) + "; if (got != " + due + ") wrong += \"line " + line + ": it answered \" + got + \"\\n\";";
    }

    private static boolean compiles(Path source, Path folder) throws IOException {
        JavaCompiler compiler = ToolProvider.getSystemJavaCompiler();
        try (StandardJavaFileManager files = compiler.getStandardFileManager(null, null, null)) {
            List<String> options = List.of("-proc:none", "-classpath", System.getProperty("java.class.path"), "-d", folder.toString());
            return compiler.getTask(null, files, null, options, null, files.getJavaFileObjects(source)).call();
        }
    }

    private static void remove(Path folder) throws IOException {
        try (Stream<Path> paths = Files.walk(folder)) {
            for (Path path : paths.sorted(Comparator.reverseOrder()).toList()) {
                Files.delete(path);
            }
        }
    }

    /** The tables name each method and each constant, and the code shows a call of each method. */
    private void tables() throws ReflectiveOperationException {
        Set<String> methods = new TreeSet<>();
        for (Method method : LentParts.class.getDeclaredMethods()) {
            if (java.lang.reflect.Modifier.isPublic(method.getModifiers())) {
                methods.add(method.getName());
            }
        }
        Set<String> rows = new TreeSet<>();
        Set<String> acts = new TreeSet<>();
        int constants = 0;
        for (String line : readme) {
            Matcher row = ROW.matcher(line);
            if (row.matches()) {
                rows.add(row.group(1) + "/" + (row.group(2).isEmpty() ? 0 : row.group(2).split(", ").length));
                if (row.group(3) != null) {
                    acts.add(row.group(1));
                }
            }
            Matcher constant = CONSTANT.matcher(line);
            if (constant.matches()) {
                constants++;
                Due.is(constant.group(1), LentParts.class.getField(constant.group(1)).getInt(null), Integer.parseInt(constant.group(2)));
            }
        }
        Due.is("constants in README.md", constants, 5);
        Due.holds("README.md's table has each method: " + rows, rows.equals(withArguments()));
        Due.holds("README.md marks the acts: " + acts, acts.equals(new TreeSet<>(List.of(
            "lend", "half", "giveBack", "gather", "hold", "write", "claim", "serve", "handOver", "perform", "restore"))));
        List<String> notCalled = new ArrayList<>(methods);
        notCalled.removeAll(called);
        Due.holds("README.md shows a call of each method, but of " + notCalled, notCalled.equals(List.of("type")));
        Due.holds("README.md shows how to type", readme.stream().anyMatch(line -> line.contains("x.type(c);")));
    }

    private static Set<String> withArguments() {
        Set<String> names = new TreeSet<>();
        for (Method method : LentParts.class.getDeclaredMethods()) {
            if (java.lang.reflect.Modifier.isPublic(method.getModifiers())) {
                names.add(method.getName() + "/" + method.getParameterCount());
            }
        }
        return names;
    }

    private void howToRunTests() {
        Due.holds("README.md says how to run the tests", readme.contains("    .ci/run"));
        Due.holds("and it is there", Files.isRegularFile(Path.of(".ci/run")));
    }
}
