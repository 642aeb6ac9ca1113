import java.io.ByteArrayOutputStream;
import java.io.IOException;
import java.io.PrintStream;
import java.lang.reflect.Method;
import java.lang.reflect.Modifier;
import java.net.URL;
import java.net.URLClassLoader;
import java.nio.charset.StandardCharsets;
import java.nio.file.DirectoryStream;
import java.nio.file.Files;
import java.nio.file.Path;
import java.util.Comparator;
import java.util.List;
import java.util.Set;
import java.util.TreeSet;
import java.util.regex.Matcher;
import java.util.regex.Pattern;
import java.util.stream.Stream;
import javax.tools.JavaCompiler;
import javax.tools.ToolProvider;

/** What README.md says is so: its example, the calls it names, the command and the tests. */
public final class ReadmeTest {
    private static final Path TESTS = Path.of("src/test/java");

    public static void main(String[] args) throws Exception {
        String readme = Files.readString(Path.of("README.md"));
        example(readme);
        calls(readme);
        command(readme);
        tests(readme);
        Desk.finish();
    }

    private static void example(String readme) throws Exception {
        Desk.due("examples in README.md", Pattern.compile("(?m)^```java$").matcher(readme).results().count(), 1L);
        Path room = Files.createTempDirectory("readme");
        try {
            Path file = room.resolve("Example.java");
            Files.writeString(file, fenced(readme, "java"));
            JavaCompiler compiler = ToolProvider.getSystemJavaCompiler();
            int failed = compiler.run(null, null, null, "-Xlint:all", "-Werror", "-d", room.toString(),
                    "src/main/java/DocFormat.java", file.toString());
            Desk.due("compiling the example", failed, 0);
            if (failed == 0) {
                Desk.due("the example", printed(room), fenced(readme, "text"));
            }
        } finally {
            delete(room);
        }
    }

    private static String printed(Path classes) throws Exception {
        PrintStream before = System.out;
        ByteArrayOutputStream bytes = new ByteArrayOutputStream();
        ClassLoader library = ClassLoader.getPlatformClassLoader();
        try (URLClassLoader loader = new URLClassLoader(new URL[] {classes.toUri().toURL()}, library)) {
            System.setOut(new PrintStream(bytes, true, StandardCharsets.ISO_8859_1));
            loader.loadClass("Example").getMethod("main", String[].class).invoke(null, (Object) new String[0]);
        } finally {
            System.setOut(before);
        }
        return bytes.toString(StandardCharsets.ISO_8859_1).replace(System.lineSeparator(), "\n");
    }

    private static void calls(String readme) {
        for (Method m : DocFormat.class.getDeclaredMethods()) {
            if (Modifier.isPublic(m.getModifiers())) {
                Desk.due("README.md names " + m.getName(), readme.contains("`" + m.getName() + "`"), true);
            }
        }
    }

    private static void command(String readme) {
        Desk.due("README.md names the command", readme.contains("\n    .ci/run\n"), true);
        Desk.due("the command can be run", Files.isExecutable(Path.of(".ci/run")), true);
    }

    /** All that has a main is named *Test, by which the command finds it, and README.md names just these. */
    private static void tests(String readme) throws IOException {
        Set<String> there = new TreeSet<>();
        try (DirectoryStream<Path> files = Files.newDirectoryStream(TESTS, "*.java")) {
            for (Path file : files) {
                String name = file.getFileName().toString().replace(".java", "");
                boolean runs = Files.readString(file).contains("static void main(");
                Desk.due(name + " is a test by its name", name.endsWith("Test"), runs);
                if (runs) {
                    there.add(name);
                }
            }
        }
        Set<String> named = new TreeSet<>();
        Matcher names = Pattern.compile("`(\\w+Test)`").matcher(readme);
        while (names.find()) {
            named.add(names.group(1));
        }
        Desk.due("tests that README.md names", named, there);
    }

    private static String fenced(String readme, String sort) {
        Matcher block = Pattern.compile("(?ms)^```" + sort + "\n(.*?)^```$").matcher(readme);
        return block.find() ? block.group(1) : "";
    }

    private static void delete(Path room) throws IOException {
        List<Path> all;
        try (Stream<Path> paths = Files.walk(room)) {
            all = paths.sorted(Comparator.reverseOrder()).toList();
        }
        for (Path path : all) {
            Files.delete(path);
        }
    }
}
