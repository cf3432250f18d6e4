import java.io.ByteArrayOutputStream;
import java.io.IOException;
import java.io.PrintStream;
import java.lang.reflect.Method;
import java.lang.reflect.Modifier;
import java.net.URL;
import java.net.URLClassLoader;
import java.nio.charset.StandardCharsets;
import java.nio.file.Files;
import java.nio.file.Path;
import java.util.ArrayList;
import java.util.List;
import java.util.Set;
import java.util.TreeSet;
import java.util.regex.Matcher;
import java.util.regex.Pattern;
import javax.tools.JavaCompiler;
import javax.tools.ToolProvider;

/**
 * The example of README.md, compiled and run as it stands there: each line that it
 * prints is held against the comment behind the line that prints it. It is run from
 * the directory of README.md.
 */
public final class ReadmeTest {
    private static final Pattern EXAMPLE = Pattern.compile("^```java\n(.*?)^```$", Pattern.MULTILINE | Pattern.DOTALL);
    private static final Pattern PRINTS = Pattern.compile("System\\.out\\.println\\(.*\\); *// *([^:]*)(:.*)?");
    private static final Expect expect = new Expect();

    public static void main(String[] args) throws Exception {
        String readme = Files.readString(Path.of("README.md"));
        String example = exampleOf(readme);
        List<String> due = linesDue(example);
        expect.words("the example of README.md");
        expect.due("it prints something", due.isEmpty(), false);
        expect.due("what it prints", linesOf(run(example)), due);
        everyCallIn(readme, example);
        expect.finish();
    }

    private static String exampleOf(String readme) {
        Matcher found = EXAMPLE.matcher(readme);
        expect.due("there is an example", found.find(), true);
        String example = found.group(1);
        expect.due("there is just one", found.find(), false);
        return example;
    }

    /** What the comments say, from top to bottom: so the example may not print in a loop. */
    private static List<String> linesDue(String example) {
        List<String> due = new ArrayList<>();
        for (String line : example.split("\n")) {
            Matcher prints = PRINTS.matcher(line.trim());
            expect.due("is the answer told in: " + line, prints.matches(), line.contains("println"));
            if (prints.matches()) {
                due.add(prints.group(1).trim());
            }
        }
        return due;
    }

    private static List<String> linesOf(String printed) {
        return printed.lines().toList();
    }

    private static String run(String example) throws Exception {
        Path directory = Files.createTempDirectory("readme");
        try {
            compile(example, directory);
            return printedBy(directory);
        } finally {
            remove(directory);
        }
    }

    private static void compile(String example, Path directory) throws IOException {
        Path source = directory.resolve("Example.java");
        Files.writeString(source, example);
        JavaCompiler compiler = ToolProvider.getSystemJavaCompiler();
        int result = compiler.run(null, null, null, "-Xlint:all", "-Werror",
            "-cp", System.getProperty("java.class.path"), "-d", directory.toString(), source.toString());
        expect.due("it compiles", result, 0);
    }

    private static String printedBy(Path directory) throws Exception {
        PrintStream usual = System.out;
        ByteArrayOutputStream printed = new ByteArrayOutputStream();
        try (URLClassLoader loader = new URLClassLoader(new URL[] {directory.toUri().toURL()})) {
            System.setOut(new PrintStream(printed, true, StandardCharsets.UTF_8));
            loader.loadClass("Example").getMethod("main", String[].class).invoke(null, (Object) new String[0]);
        } finally {
            System.setOut(usual);
        }
        return printed.toString(StandardCharsets.UTF_8);
    }

    private static void remove(Path directory) throws IOException {
        try (var inside = Files.list(directory)) {
            for (Path file : inside.toList()) {
                Files.delete(file);
            }
        }
        Files.delete(directory);
    }

    private static void everyCallIn(String readme, String example) {
        expect.words("README.md says how to use the class");
        Set<String> calls = new TreeSet<>();
        for (Method m : MeshWalk.class.getDeclaredMethods()) {
            if (Modifier.isPublic(m.getModifiers())) {
                calls.add(m.getName());
            }
        }
        for (String call : calls) {
            expect.due(call + " is in the example", example.contains("m." + call + "("), true);
            expect.due(call + " is in the table", readme.contains("\n| `" + call + "("), true);
        }
    }
}
