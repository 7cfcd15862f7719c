import java.io.IOException;
import java.lang.reflect.Method;
import java.lang.reflect.Modifier;
import java.net.URL;
import java.net.URLClassLoader;
import java.nio.file.Files;
import java.nio.file.Path;
import java.util.ArrayList;
import java.util.Comparator;
import java.util.List;
import java.util.Set;
import java.util.TreeSet;
import java.util.regex.Matcher;
import java.util.regex.Pattern;
import java.util.stream.Stream;
import javax.tools.JavaCompiler;
import javax.tools.ToolProvider;

/** What README.md shows of the use of the class is compiled and run, and each answer that it tells must be so. */
public final class ReadmeTest {
    private static final Path README = Path.of("README.md");
    private static final Path TESTS = Path.of("src/test/java");
    private static final String PROGRAM = "ReadmeProgram";

    /** A line whose comment tells its answer: [type name =] call; // answer .. */
    private static final Pattern ANSWERED =
            Pattern.compile("(?:(\\w+ \\w+) = )?(x\\..+); +// (-?[0-9]+|true|false|throws \\w+)\\b.*");

    private final List<String> methods = new ArrayList<>();
    private final List<String> statements = new ArrayList<>();
    private final List<String> calls = new ArrayList<>();
    private final List<String> due = new ArrayList<>();

    public static void main(String[] args) throws IOException, ReflectiveOperationException {
        List<String> lines = Files.readAllLines(README);
        ReadmeTest test = new ReadmeTest();
        test.readCode(lines);
        test.everyCallTellsItsAnswer();
        test.everyMethodIsShown();
        test.everyAnswerIsSo();
        everyTestIsNamed(lines);
        Checks.finish();
    }

    private void readCode(List<String> lines) {
        List<String> block = null;
        for (String line : lines) {
            if (line.equals("```java")) {
                block = new ArrayList<>();
            } else if (line.equals("```") && block != null) {
                takeBlock(block);
                block = null;
            } else if (block != null) {
                block.add(line);
            }
        }
        Checks.due("README has an end for each block of code", block == null, true);
    }

    private void takeBlock(List<String> block) {
        if (block.get(0).startsWith("static ")) {
            methods.addAll(block);
            return;
        }
        for (String line : block) {
            Matcher m = ANSWERED.matcher(line);
            if (m.matches()) {
                calls.add(line);
                due.add(m.group(3));
                statements.add(statement(m.group(1), m.group(2), m.group(3)));
            } else {
                statements.add(line);
            }
        }
    }

    private static String statement(String variable, String call, String answer) {
        if (answer.startsWith("throws")) {
            return "try { " + call + "; got.add(\"nothing\"); } catch (RuntimeException e) {"
                    + " got.add(\"throws \" + e.getClass().getSimpleName()); }";
        }
        if (variable == null) {
            return "got.add(String.valueOf(" + call + "));";
        }
        String name = variable.substring(variable.indexOf(' ') + 1);
        return variable + " = " + call + "; got.add(String.valueOf(" + name + "));";
    }

    // An answer that is written so that it is not seen would never be run against.
    private void everyCallTellsItsAnswer() {
        for (String line : statements) {
            Checks.due("README tells no answer of: " + line, line.contains("x.") && !line.contains("got.add"), false);
        }
    }

    private void everyMethodIsShown() {
        String shown = String.join("\n", calls);
        for (Method m : SaltCaravans.class.getDeclaredMethods()) {
            if (Modifier.isPublic(m.getModifiers())) {
                Checks.due("README shows " + m.getName(), shown.contains("x." + m.getName() + "("), true);
            }
        }
    }

    private void everyAnswerIsSo() throws IOException, ReflectiveOperationException {
        Path place = Files.createTempDirectory("readme");
        try {
            List<?> got = runProgram(place);
            Checks.due("answers of README's code", got.size(), due.size());
            for (int i = 0; i < due.size() && i < got.size(); i++) {
                Checks.due("README: " + calls.get(i), String.valueOf(got.get(i)), due.get(i));
            }
        } finally {
            remove(place);
        }
    }

    private List<?> runProgram(Path place) throws IOException, ReflectiveOperationException {
        Path source = place.resolve(PROGRAM + ".java");
        Files.writeString(source, "import java.util.ArrayList;\nimport java.util.List;\n"
                + "public final class " + PROGRAM + " {\n"
                + String.join("\n", methods) + "\n"
                + "public static List<String> run() {\nList<String> got = new ArrayList<>();\n"
                + String.join("\n", statements) + "\nreturn got;\n}\n}\n");
        JavaCompiler compiler = ToolProvider.getSystemJavaCompiler();
        int failed = compiler == null ? 1 : compiler.run(null, null, null, "-cp", System.getProperty("java.class.path"),
                "-d", place.toString(), source.toString());
        Checks.due("javac of README's code", failed, 0);
        if (failed != 0) {
            return List.of();
        }
        try (URLClassLoader loader = new URLClassLoader(new URL[] {place.toUri().toURL()})) {
            return (List<?>) loader.loadClass(PROGRAM).getMethod("run").invoke(null);
        }
    }

    private static void remove(Path place) throws IOException {
        try (Stream<Path> all = Files.walk(place)) {
            for (Path p : all.sorted(Comparator.reverseOrder()).toList()) {
                Files.delete(p);
            }
        }
    }

    private static void everyTestIsNamed(List<String> lines) throws IOException {
        Set<String> named = new TreeSet<>();
        for (String line : lines) {
            Matcher m = Pattern.compile("\\| `(\\w+)` \\|.*").matcher(line);
            if (m.matches()) {
                named.add(m.group(1) + ".java");
            }
        }
        Set<String> there = new TreeSet<>();
        try (Stream<Path> files = Files.list(TESTS)) {
            for (Path p : files.toList()) {
                if (p.getFileName().toString().endsWith("Test.java")) {
                    there.add(p.getFileName().toString());
                }
            }
        }
        Checks.due("the tests that README names", named.toString(), there.toString());
    }
}
