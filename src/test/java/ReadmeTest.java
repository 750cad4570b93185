import java.io.ByteArrayOutputStream;
import java.io.IOException;
import java.io.PrintStream;
import java.lang.reflect.Method;
import java.lang.reflect.Modifier;
import java.net.URL;
import java.net.URLClassLoader;
import java.nio.charset.StandardCharsets;
import java.nio.file.Files;
import java.nio.file.Path;
import java.util.List;
import javax.tools.ToolProvider;

/** The example of README.md compiles and prints what it says, and README.md names every call. */
public final class ReadmeTest {
    private static final List<String> DUE = List.of(
        "26", "0", "22", "2~5 0=20:0", "3", "4", "20", "lives in a flat already");

    private ReadmeTest() {
    }

    public static void main(String[] args) throws IOException, ReflectiveOperationException {
        String readme = Files.readString(Path.of("README.md"));
        Check.same("README.md's example", printed(example(readme)), DUE);
        for (Method method : TenantCensus.class.getDeclaredMethods()) {
            if (Modifier.isPublic(method.getModifiers())) {
                Check.yes("README.md names " + method.getName(), readme.contains("`" + method.getName() + "`"));
            }
        }
        Check.yes("README.md says how the tests are run", readme.contains("\n    .ci/run\n"));
        Check.end("ReadmeTest");
    }

    private static String example(String readme) {
        String begin = "\n```java\n";
        int from = readme.indexOf(begin) + begin.length();
        return readme.substring(from, readme.indexOf("\n```\n", from));
    }

    private static List<String> printed(String source) throws IOException, ReflectiveOperationException {
        Path directory = Files.createTempDirectory("readme");
        Path file = Files.writeString(directory.resolve("Example.java"), source);
        Path compiled = directory.resolve("Example.class");
        try {
            int result = ToolProvider.getSystemJavaCompiler().run(null, null, null,
                "-encoding", "UTF-8", "-cp", System.getProperty("java.class.path"),
                "-d", directory.toString(), file.toString());
            Check.same("javac of README.md's example", result, 0);
            return result == 0 ? linesOfMain(directory) : List.of();
        } finally {
            Files.deleteIfExists(compiled);
            Files.delete(file);
            Files.delete(directory);
        }
    }

    private static List<String> linesOfMain(Path directory) throws IOException, ReflectiveOperationException {
        PrintStream before = System.out;
        ByteArrayOutputStream caught = new ByteArrayOutputStream();
        try (URLClassLoader loader = new URLClassLoader(new URL[] {directory.toUri().toURL()})) {
            System.setOut(new PrintStream(caught, true, StandardCharsets.UTF_8));
            loader.loadClass("Example").getMethod("main", String[].class).invoke(null, (Object) new String[0]);
        } finally {
            System.setOut(before);
        }
        return caught.toString(StandardCharsets.UTF_8).lines().toList();
    }
}
