import java.io.IOException;
import java.lang.reflect.Field;
import java.lang.reflect.Method;
import java.lang.reflect.Modifier;
import java.net.URL;
import java.net.URLClassLoader;
import java.nio.file.Files;
import java.nio.file.Path;
import java.util.ArrayList;
import java.util.List;
import java.util.Set;
import java.util.TreeSet;
import java.util.regex.Matcher;
import java.util.regex.Pattern;
import javax.tools.ToolProvider;

/** README.md: its examples answer what stands behind them, and its tables name every call and constant. */
public final class ReadmeTest {
    private static final Path README = Path.of("README.md");
    private static final String EXAMPLES = "ReadmeExamples";

    // [int name = ]graph.call(...);  // answer[: why]
    private static final Pattern CALL = Pattern.compile(
        "\\s*(?:int (\\w+) = )?(graph\\.(\\w+)\\([^()]*\\));(?:\\s*// ([-\\w]+)(?:: .*)?)?");
    private static final Pattern CALL_ROW = Pattern.compile("\\| `(\\w+)\\(([^()]*)\\)` \\|.*");
    private static final Pattern CONSTANT_ROW = Pattern.compile("\\| `([A-Z_]+)` \\| (-?\\d+) \\|");

    private static final Set<String> called = new TreeSet<>();
    private static final Set<Integer> linesWithAnswers = new TreeSet<>();
    private static final Set<Integer> linesCompared = new TreeSet<>();

    public static void main(String[] args) throws IOException, ReflectiveOperationException {
        List<String> lines = Files.readAllLines(README);
        runExamples(toJava(lines));
        Due.same("lines compared", linesCompared.toString(), linesWithAnswers.toString());
        Due.same("calls in the examples", called.toString(), methodNames().toString());
        Due.same("rows of calls", callRows(lines).toString(), methodRows().toString());
        Due.same("rows of constants", constantRows(lines).toString(), constants().toString());
        Due.end();
    }

    /** Called by the examples with each answer; public, as they come from another class loader. */
    public static void answers(int line, String call, int got, int want) {
        linesCompared.add(line);
        Due.due("README.md, line " + line + ": " + call, got, want);
    }

    private static String toJava(List<String> lines) {
        StringBuilder java = new StringBuilder();
        java.append("public final class " + EXAMPLES + " {\n");
        int examples = 0;
        boolean inside = false;
        for (int i = 0; i < lines.size(); i++) {
            String line = lines.get(i);
            if (!inside && line.equals("```java")) {
                inside = true;
                examples++;
                java.append("public static void example" + examples + "() {\n");
            } else if (inside && line.equals("```")) {
                inside = false;
                java.append("}\n");
            } else if (inside) {
                java.append(statement(i + 1, line)).append('\n');
            }
        }
        Due.due("README.md has examples", examples > 0 ? 1 : 0, 1);
        return java.append("}\n").toString();
    }

    private static String statement(int number, String line) {
        Matcher call = CALL.matcher(line);
        if (!call.matches()) {
            // Such a call would be run without being compared.
            Due.due("README.md, line " + number + " has a call in no known form",
                line.contains("graph.") ? 1 : 0, 0);
            return line;
        }
        called.add(call.group(3));
        String answer = call.group(4);
        boolean isVoid = call.group(3).equals("emptyStore");
        Due.due("README.md, line " + number + " tells an answer", answer == null ? 0 : 1, isVoid ? 0 : 1);
        if (answer == null || isVoid) {
            return line;
        }
        linesWithAnswers.add(number);
        String want = answer.matches("[A-Z_]+") ? "BuildGraph." + answer : answer;
        String name = call.group(1);
        String before = name == null ? "" : "int " + name + " = " + call.group(2) + "; ";
        String got = name == null ? call.group(2) : name;
        return before + "ReadmeTest.answers(" + number + ", \"" + call.group(2) + "\", " + got + ", " + want + ");";
    }

    private static void runExamples(String java) throws IOException, ReflectiveOperationException {
        Path folder = Files.createTempDirectory("readme");
        Path source = folder.resolve(EXAMPLES + ".java");
        Path compiled = folder.resolve(EXAMPLES + ".class");
        try {
            Files.writeString(source, java);
            int code = ToolProvider.getSystemJavaCompiler().run(null, System.out, System.out,
                "-cp", System.getProperty("java.class.path"), "-d", folder.toString(), source.toString());
            Due.due("javac on the examples of README.md", code, 0);
            if (code == 0) {
                runCompiled(folder);
            }
        } finally {
            Files.deleteIfExists(compiled);
            Files.deleteIfExists(source);
            Files.deleteIfExists(folder);
        }
    }

    private static void runCompiled(Path folder) throws IOException, ReflectiveOperationException {
        URL[] places = {folder.toUri().toURL()};
        try (URLClassLoader loader = new URLClassLoader(places, ReadmeTest.class.getClassLoader())) {
            for (Method example : loader.loadClass(EXAMPLES).getDeclaredMethods()) {
                example.invoke(null);
            }
        }
    }

    private static List<Method> publicMethods() {
        List<Method> methods = new ArrayList<>();
        for (Method method : BuildGraph.class.getDeclaredMethods()) {
            if (Modifier.isPublic(method.getModifiers())) {
                methods.add(method);
            }
        }
        return methods;
    }

    private static Set<String> methodNames() {
        Set<String> names = new TreeSet<>();
        publicMethods().forEach(method -> names.add(method.getName()));
        return names;
    }

    private static Set<String> methodRows() {
        Set<String> rows = new TreeSet<>();
        publicMethods().forEach(method -> rows.add(method.getName() + " " + method.getParameterCount()));
        return rows;
    }

    private static Set<String> callRows(List<String> lines) {
        Set<String> rows = new TreeSet<>();
        for (String line : lines) {
            Matcher row = CALL_ROW.matcher(line);
            if (row.matches()) {
                String taken = row.group(2);
                rows.add(row.group(1) + " " + (taken.isEmpty() ? 0 : taken.split(", ").length));
            }
        }
        return rows;
    }

    private static Set<String> constants() throws ReflectiveOperationException {
        Set<String> rows = new TreeSet<>();
        for (Field field : BuildGraph.class.getFields()) {
            rows.add(field.getName() + " " + field.getInt(null));
        }
        return rows;
    }

    private static Set<String> constantRows(List<String> lines) {
        Set<String> rows = new TreeSet<>();
        for (String line : lines) {
            Matcher row = CONSTANT_ROW.matcher(line);
            if (row.matches()) {
                rows.add(row.group(1) + " " + row.group(2));
            }
        }
        return rows;
    }
}
