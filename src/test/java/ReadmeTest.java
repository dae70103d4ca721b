import java.io.ByteArrayOutputStream;
import java.io.IOException;
import java.io.PrintStream;
import java.net.URL;
import java.net.URLClassLoader;
import java.nio.file.Files;
import java.nio.file.Path;
import javax.tools.ToolProvider;

/** The program in README.md compiles and prints what README.md says. Runs in the project's directory. */
public final class ReadmeTest {
    private static final String FENCE = "```";

    private ReadmeTest() {
    }

    /** The first block of README.md that is marked so, without its fences. */
    private static String block(String readme, String mark) {
        String opening = "\n" + FENCE + mark + "\n";
        int start = readme.indexOf(opening);
        int end = start < 0 ? -1 : readme.indexOf("\n" + FENCE, start + opening.length());
        return end < 0 ? "" : readme.substring(start + opening.length(), end + 1);
    }

    private static String printed(Path classes, String name) throws IOException, ReflectiveOperationException {
        ByteArrayOutputStream bytes = new ByteArrayOutputStream();
        PrintStream out = System.out;
        try (URLClassLoader loader = new URLClassLoader(new URL[] {classes.toUri().toURL()});
                PrintStream caught = new PrintStream(bytes)) {
            System.setOut(caught);
            loader.loadClass(name).getMethod("main", String[].class).invoke(null, (Object) new String[0]);
        } finally {
            System.setOut(out);
        }
        return bytes.toString().replace(System.lineSeparator(), "\n");
    }

    public static void main(String[] args) throws IOException, ReflectiveOperationException {
        String readme = Files.readString(Path.of("README.md"));
        Path directory = Files.createTempDirectory("readme");
        Path source = directory.resolve("Draw.java");
        Path compiled = directory.resolve("Draw.class");
        try {
            Files.writeString(source, block(readme, "java"));
            int failed = ToolProvider.getSystemJavaCompiler().run(null, null, null, "-Xlint:all", "--release", "17",
                    "-cp", System.getProperty("java.class.path"), "-d", directory.toString(), source.toString());
            Check.due("compiling the program in README.md", failed, 0);
            if (failed == 0) {
                Check.due("the program in README.md", printed(directory, "Draw"), block(readme, "text"));
            }
        } finally {
            Files.deleteIfExists(compiled);
            Files.deleteIfExists(source);
            Files.deleteIfExists(directory);
        }
        Check.finish();
    }
}
