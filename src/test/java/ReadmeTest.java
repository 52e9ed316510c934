import java.io.ByteArrayOutputStream;
import java.io.PrintStream;
import java.net.URL;
import java.net.URLClassLoader;
import java.nio.charset.StandardCharsets;
import java.nio.file.Files;
import java.nio.file.Path;
import java.util.Comparator;
import java.util.List;
import java.util.stream.Collectors;
import java.util.stream.Stream;
import javax.tools.ToolProvider;

/** The example of README.md prints what README.md says, and its tables name all calls and all tests. */
public final class ReadmeTest {
    public static void main(String[] args) throws Exception {
        String readme = Files.readString(Path.of("README.md"), StandardCharsets.UTF_8);
        if (ToolProvider.getSystemJavaCompiler() == null) System.out.println("no compiler is here, and the example is not tried");
        else example(readme);
        for (java.lang.reflect.Method m : PlanningHouse.class.getMethods()) {
            if (m.getDeclaringClass() != PlanningHouse.class) continue;
            Due.is("README.md names " + m.getName(), readme.contains("`" + m.getName() + "`"), true);
        }
        for (String test : tests()) Due.is("README.md names " + test, readme.contains("| " + test + " |"), true);
        Due.end();
    }

    private static void example(String readme) throws Exception {
        Path work = Files.createTempDirectory("readme");
        try {
            Due.same("what the example prints", printed(block(readme, "java"), work), block(readme, "text"));
        } finally {
            clear(work);
        }
    }

    private static String block(String readme, String kind) {
        int from = readme.indexOf("```" + kind + "\n");
        int to = readme.indexOf("\n```\n", from);
        return from < 0 || to < 0 ? "" : readme.substring(from + kind.length() + 4, to + 1);
    }

    private static String printed(String example, Path work) throws Exception {
        Path source = work.resolve("Example.java");
        Files.writeString(source, example, StandardCharsets.UTF_8);
        String classes = System.getProperty("java.class.path");
        ByteArrayOutputStream told = new ByteArrayOutputStream();
        int wrong = ToolProvider.getSystemJavaCompiler().run(null, told, told, "-cp", classes, "-d", work.toString(), source.toString());
        if (wrong != 0) return "not compiled: " + told;
        PrintStream before = System.out;
        try (URLClassLoader loader = new URLClassLoader(new URL[] {work.toUri().toURL()})) {
            System.setOut(new PrintStream(told, true, "UTF-8"));
            loader.loadClass("Example").getMethod("main", String[].class).invoke(null, (Object) new String[0]);
        } finally {
            System.setOut(before);
        }
        return told.toString("UTF-8");
    }

    private static List<String> tests() throws Exception {
        try (Stream<Path> files = Files.list(Path.of("src/test/java"))) {
            return files.map(f -> f.getFileName().toString()).filter(f -> f.endsWith("Test.java"))
                .map(f -> f.substring(0, f.length() - 5)).sorted().collect(Collectors.toList());
        }
    }

    private static void clear(Path work) throws Exception {
        try (Stream<Path> files = Files.walk(work)) {
            for (Path file : files.sorted(Comparator.reverseOrder()).collect(Collectors.toList())) Files.delete(file);
        }
    }
}
