import java.io.IOException;
import java.lang.invoke.MethodHandles;
import java.nio.file.Files;
import java.nio.file.Path;
import java.util.List;
import java.util.regex.Matcher;
import java.util.regex.Pattern;
import javax.tools.JavaCompiler;
import javax.tools.ToolProvider;

/**
 * Runs the examples of README.md and holds each answer to the one that its line's comment begins
 * with; README.md also names every method of the face and every test.
 */
public final class ReadmeTest {
    private static final Path README = Path.of("README.md");
    private static final Path TESTS = Path.of("src/test/java");
    private static final Pattern ANSWER = Pattern.compile(
            "\\s*(?:(int|boolean) (\\w+) = )?(net\\..*);\\s*// (-?\\d+|true|false)\\b.*");

    public static void main(String[] args) throws IOException, ReflectiveOperationException {
        List<String> lines = Files.readAllLines(README);
        theExamplesHold(lines);
        everyMethodIsNamed(String.join("\n", lines));
        everyTestIsNamed(String.join("\n", lines));
        Check.end();
    }

    private static void theExamplesHold(List<String> lines)
            throws IOException, ReflectiveOperationException {
        StringBuilder source = new StringBuilder("final class ReadmeExamples {\n");
        int examples = 0;
        int answers = 0;
        boolean inside = false;
        for (String line : lines) {
            if (line.equals("```java")) {
                inside = true;
                source.append("static void example").append(examples++).append("() {\n");
            } else if (inside && line.equals("```")) {
                inside = false;
                source.append("}\n");
            } else if (inside) {
                Matcher answer = ANSWER.matcher(line);
                answers += answer.matches() ? 1 : 0;
                source.append(answer.matches() ? held(answer) : line).append('\n');
            }
        }
        Check.due("examples with answers", examples > 0 && answers > examples, true);
        run(source.append("}\n").toString(), examples);
    }

    private static String held(Matcher answer) {
        String call = answer.group(3);
        String got = answer.group(2) == null ? call : answer.group(2);
        String before = answer.group(2) == null ? ""
                : answer.group(1) + " " + got + " = " + call + ";\n";
        return before + "Check.due(\"README: " + call.replace("\"", "\\\"") + "\", " + got + ", "
                + answer.group(4) + ");";
    }

    /** The class is defined beside this one, so that it sees the tests' classes. */
    private static void run(String source, int examples)
            throws IOException, ReflectiveOperationException {
        Path directory = Files.createTempDirectory("readme");
        Path file = directory.resolve("ReadmeExamples.java");
        Path made = directory.resolve("ReadmeExamples.class");
        Files.writeString(file, source);
        JavaCompiler compiler = ToolProvider.getSystemJavaCompiler();
        int failed = compiler.run(null, System.out, System.out, "--release", "17", "-cp",
                System.getProperty("java.class.path"), "-d", directory.toString(), file.toString());
        Check.due("README's examples compile", failed, 0);
        if (failed == 0) {
            Class<?> type = MethodHandles.lookup().defineClass(Files.readAllBytes(made));
            for (int i = 0; i < examples; i++) {
                type.getDeclaredMethod("example" + i).invoke(null);
            }
        }
        Files.deleteIfExists(made);
        Files.delete(file);
        Files.delete(directory);
    }

    private static void everyMethodIsNamed(String readme) {
        for (var method : NameNet.class.getMethods()) {
            if (method.getDeclaringClass() == NameNet.class) {
                Check.due("README names " + method.getName(),
                        readme.contains("| `" + method.getName() + "("), true);
            }
        }
    }

    private static void everyTestIsNamed(String readme) throws IOException {
        try (var files = Files.list(TESTS)) {
            for (Path file : files.toList()) {
                String name = file.getFileName().toString().replace(".java", "");
                if (name.endsWith("Test")) {
                    Check.due("README names " + name, readme.contains("| `" + name + "` |"), true);
                }
            }
        }
    }
}
