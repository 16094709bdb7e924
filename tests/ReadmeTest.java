import java.io.IOException;
import java.lang.reflect.InvocationTargetException;
import java.net.URL;
import java.net.URLClassLoader;
import java.nio.file.Files;
import java.nio.file.Path;
import java.util.ArrayList;
import java.util.List;
import java.util.regex.Matcher;
import java.util.regex.Pattern;
import java.util.stream.Stream;
import javax.tools.JavaCompiler;
import javax.tools.ToolProvider;

/**
 * Runs the calls that README.md shows: each example as it stands there, a program of its own, each call that tells its
 * answer compared with it.
 */
public final class ReadmeTest {
    private static final Pattern EXAMPLE = Pattern.compile("(?s)```java\n(.*?)```");
    private static final Pattern ANSWERED = Pattern.compile("(x\\..*\\));\\s+// (-?\\d+): \\S.*");

    private ReadmeTest() {
    }

    private static List<String> examplesOf(String readme) {
        List<String> examples = new ArrayList<>();
        Matcher m = EXAMPLE.matcher(readme);
        while (m.find()) {
            examples.add(m.group(1));
        }
        return examples;
    }

    /** The example's own lines; those that tell an answer hand theirs over to be compared. */
    private static String programOf(String name, String example) {
        StringBuilder program = new StringBuilder("public final class " + name + " {\n    public static void run() {\n");
        int answers = 0;
        for (String line : example.split("\n")) {
            Matcher m = ANSWERED.matcher(line);
            if (m.matches()) {
                answers++;
                program.append("Check.due(\"").append(name).append(": ").append(m.group(1).replace("\"", "\\\""));
                program.append("\", ").append(m.group(1)).append(", ").append(m.group(2)).append("L);\n");
            } else {
                // what stands within a loop is indented; each other call is to tell its answer
                Check.holds("README.md tells an answer behind: " + line, !line.startsWith("x."));
                program.append(line).append('\n');
            }
        }
        Check.holds(name + " tells answers", answers > 0);
        return program.append("    }\n}\n").toString();
    }

    private static boolean compile(Path folder, String name, String program) throws IOException {
        Path file = folder.resolve(name + ".java");
        Files.writeString(file, program);
        JavaCompiler compiler = ToolProvider.getSystemJavaCompiler();
        return compiler != null && compiler.run(null, null, null, "-cp", System.getProperty("java.class.path"),
            "-d", folder.toString(), file.toString()) == 0;
    }

    private static void run(Path folder, String name) throws IOException, ReflectiveOperationException {
        try (URLClassLoader loader = new URLClassLoader(new URL[] {folder.toUri().toURL()})) {
            loader.loadClass(name).getMethod("run").invoke(null);
        } catch (InvocationTargetException thrown) {
            thrown.getCause().printStackTrace(System.out);
            Check.holds(name + " throws nothing", false);
        }
    }

    private static void remove(Path folder) throws IOException {
        try (Stream<Path> files = Files.list(folder)) {
            for (Path file : files.toList()) {
                Files.delete(file);
            }
        }
        Files.delete(folder);
    }

    public static void main(String[] args) throws IOException, ReflectiveOperationException {
        Path root = Path.of(args.length > 0 ? args[0] : ".");
        List<String> examples = examplesOf(Files.readString(root.resolve("README.md")));
        Check.holds("README.md shows examples of use", !examples.isEmpty());
        Path folder = Files.createTempDirectory("readme");
        try {
            for (int i = 0; i < examples.size(); i++) {
                String name = "ReadmeExample" + (i + 1);
                boolean compiled = compile(folder, name, programOf(name, examples.get(i)));
                Check.holds(name + " compiles", compiled);
                if (compiled) {
                    run(folder, name);
                }
            }
        } finally {
            remove(folder);
        }
        Check.end();
    }
}
