import java.io.ByteArrayOutputStream;
import java.io.PrintStream;
import java.lang.reflect.Method;
import java.lang.reflect.Modifier;
import java.net.URL;
import java.net.URLClassLoader;
import java.nio.file.Files;
import java.nio.file.Path;
import javax.tools.ToolProvider;

/** README.md: its program prints what it says, and it names every call of the face. */
public final class ReadmeTest {
    public static void main(String[] args) throws Exception {
        String readme = Files.readString(Path.of("README.md"));
        Check.due("the program of README.md prints", block(readme, "text"), printedBy(block(readme, "java")));
        for (Method m : GripEstates.class.getDeclaredMethods()) {
            if (Modifier.isPublic(m.getModifiers())) {
                Check.due("README.md names " + m.getName(), true, readme.contains("`" + m.getName() + "`"));
            }
        }
        Check.due("README.md says how to run all tests", true, readme.contains("sh .ci/run"));
        Check.end();
    }

    /** The first block of that kind, without its fences. */
    private static String block(String readme, String kind) {
        String fence = "```" + kind + "\n";
        int from = readme.indexOf(fence);
        int to = from < 0 ? -1 : readme.indexOf("```", from + fence.length());
        return to < 0 ? "" : readme.substring(from + fence.length(), to);
    }

    private static String printedBy(String program) throws Exception {
        Path dir = Files.createTempDirectory("readme");
        Path source = dir.resolve("Example.java");
        Files.writeString(source, program);
        int failed = ToolProvider.getSystemJavaCompiler().run(null, null, null,
            "-cp", System.getProperty("java.class.path"), "-d", dir.toString(), source.toString());
        String printed = failed == 0 ? run(dir) : "does not compile";
        Files.deleteIfExists(source);
        Files.deleteIfExists(dir.resolve("Example.class"));
        Files.deleteIfExists(dir);
        return printed;
    }

    private static String run(Path dir) throws Exception {
        ByteArrayOutputStream bytes = new ByteArrayOutputStream();
        PrintStream before = System.out;
        try (URLClassLoader loader = new URLClassLoader(new URL[] {dir.toUri().toURL()})) {
            System.setOut(new PrintStream(bytes, true));
            loader.loadClass("Example").getMethod("main", String[].class).invoke(null, (Object) new String[0]);
        } finally {
            System.setOut(before);
        }
        return bytes.toString().replace(System.lineSeparator(), "\n");
    }
}
