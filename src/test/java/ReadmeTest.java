import java.io.IOException;
import java.lang.reflect.InvocationTargetException;
import java.lang.reflect.Method;
import java.lang.reflect.Modifier;
import java.net.URL;
import java.net.URLClassLoader;
import java.nio.file.Files;
import java.nio.file.Path;
import java.util.ArrayList;
import java.util.Comparator;
import java.util.List;
import java.util.regex.Matcher;
import java.util.regex.Pattern;
import java.util.stream.Stream;

/** README.md: its examples answer what stands behind them, its tables have each call and each test. */
public final class ReadmeTest {
    private static final Path README = Path.of("README.md");
    private static final Path TESTS = Path.of("src/test/java");
    private static final Pattern ASKED = Pattern.compile("(.+\\S); +// (\\S.*)");
    private static final Pattern THROWN = Pattern.compile("throws (\\w+)");
    private static final Pattern EXCEPTION = Pattern.compile("\\w+Exception");

    public static void main(String[] args) throws Exception {
        List<String> lines = Files.readAllLines(README);
        eachCallHasItsRow(lines);
        eachTestHasItsRow(lines);
        examplesHold(lines);
        Check.end();
    }

    private static void eachCallHasItsRow(List<String> lines) {
        for (Method method : RuneBands.class.getDeclaredMethods()) {
            if (Modifier.isPublic(method.getModifiers())) {
                rowOf(lines, method);
            }
        }
    }

    /** The row's last column has the exceptions of the method's head, in their order. */
    private static void rowOf(List<String> lines, Method method) {
        String arguments = String.join(", ", "\\w+ ".repeat(method.getParameterCount()).trim().split(" "));
        Pattern head = Pattern.compile("\\| `" + method.getName() + "\\(" + arguments + "\\)` \\|.*");
        List<String> rows = lines.stream().filter(line -> head.matcher(line).matches()).toList();
        Check.same("rows of " + method.getName(), rows.size(), 1);
        List<String> due = new ArrayList<>();
        for (Class<?> kind : method.getExceptionTypes()) {
            due.add(kind.getSimpleName());
        }
        List<String> told = EXCEPTION.matcher(String.join("", rows)).results().map(found -> found.group()).toList();
        Check.sameText("exceptions of " + method.getName(), told.toString(), due.toString());
    }

    private static void eachTestHasItsRow(List<String> lines) throws IOException {
        List<String> names;
        try (Stream<Path> files = Files.list(TESTS)) {
            names = files.map(file -> file.getFileName().toString()).filter(name -> name.endsWith("Test.java"))
                .map(name -> name.replace(".java", "")).toList();
        }
        for (String name : names) {
            Check.same("rows of " + name, lines.stream().filter(line -> line.startsWith("| `" + name + "` | ")).count(), 1);
        }
        long rows = lines.stream().filter(line -> line.matches("\\| `\\w+Test` \\|.*")).count();
        Check.same("rows of tests", rows, names.size());
    }

    /** All examples are one program: it is written to a folder of its own, compiled and run. */
    private static void examplesHold(List<String> lines) throws Exception {
        Path folder = Files.createTempDirectory("readme");
        try {
            Path program = folder.resolve("Examples.java");
            Files.write(program, programOf(lines));
            int compiled = new ProcessBuilder("javac", "-encoding", "UTF-8", "-cp", System.getProperty("java.class.path"),
                "-d", folder.toString(), program.toString()).inheritIO().start().waitFor();
            Check.same("the compiler's exit code", compiled, 0);
            if (compiled == 0) {
                runFrom(folder);
            }
        } finally {
            remove(folder);
        }
    }

    private static void runFrom(Path folder) throws Exception {
        int before = Check.made();
        try (URLClassLoader loader = new URLClassLoader(new URL[] {folder.toUri().toURL()})) {
            loader.loadClass("Examples").getMethod("run").invoke(null);
        } catch (InvocationTargetException e) {
            Check.sameText("the examples", "threw " + e.getCause(), "threw nothing");
        }
        Check.holds("they ask each group of calls", Check.made() - before >= 60);
    }

    private static List<String> programOf(List<String> lines) {
        List<String> program = new ArrayList<>(List.of("public class Examples {", "public static void run() {"));
        boolean inside = false;
        for (String line : lines) {
            if (line.startsWith("```")) {
                inside = line.equals("```java");
            } else if (inside) {
                program.add(statement(line));
            }
        }
        program.addAll(List.of("}", "static void same(String call, Object got, Object due) {",
            "ReadmeTest.compare(call, got, due);", "}", "}"));
        return program;
    }

    private static String statement(String line) {
        Matcher asked = ASKED.matcher(line);
        if (!asked.matches()) {
            return line;
        }
        String call = asked.group(1);
        String name = '"' + call.replace("\\", "\\\\").replace("\"", "\\\"") + '"';
        Matcher thrown = THROWN.matcher(asked.group(2));
        if (thrown.matches()) {
            return "try { same(" + name + ", " + call + ", \"" + thrown.group() + "\"); } catch (RuntimeException e) { same("
                + name + ", \"throws \" + e.getClass().getSimpleName(), \"" + thrown.group() + "\"); }";
        }
        return "same(" + name + ", " + call + ", " + asked.group(2) + ");";
    }

    /** A byte may be told as the sign that it is. Called from the examples' program. */
    public static void compare(String call, Object got, Object due) {
        Object number = due instanceof Character ? Integer.valueOf((Character) due) : due;
        Check.sameText(call, String.valueOf(got), String.valueOf(number));
    }

    private static void remove(Path folder) throws IOException {
        try (Stream<Path> files = Files.walk(folder)) {
            for (Path file : files.sorted(Comparator.reverseOrder()).toList()) {
                Files.delete(file);
            }
        }
    }
}
