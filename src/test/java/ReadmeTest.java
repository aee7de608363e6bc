import java.io.ByteArrayOutputStream;
import java.io.IOException;
import java.io.PrintStream;
import java.lang.reflect.Method;
import java.net.URL;
import java.net.URLClassLoader;
import java.nio.charset.StandardCharsets;
import java.nio.file.Files;
import java.nio.file.Path;
import java.util.Comparator;
import java.util.List;
import java.util.stream.Stream;
import javax.tools.ToolProvider;

/** That the example of README.md compiles, and prints what README.md tells. */
final class ReadmeTest {
    private static final Path SOURCE = Path.of("src", "main", "java", "Segmentry.java");

    public static void main(String[] args) throws Exception {
        String readme = Files.readString(Path.of("README.md"));
        Path room = Files.createTempDirectory("readme");
        try {
            Path example = Files.writeString(room.resolve("Example.java"), block(readme, "java"));
            int compiled = ToolProvider.getSystemJavaCompiler()
                .run(null, null, null, "-d", room.toString(), example.toString(), SOURCE.toString());
            Check.due("the compiler", compiled, 0);
            Check.due("the example", compiled == 0 ? output(room) : "", block(readme, "text"));
        } finally {
            remove(room);
        }
        Check.end();
    }

    /** The lines of the first block of this kind. */
    private static String block(String readme, String kind) {
        String fence = "```" + kind + "\n";
        int start = readme.indexOf(fence) + fence.length();
        return readme.substring(start, readme.indexOf("```", start));
    }

    private static String output(Path room) throws Exception {
        PrintStream usual = System.out;
        ByteArrayOutputStream printed = new ByteArrayOutputStream();
        ClassLoader library = ClassLoader.getPlatformClassLoader();
        try (URLClassLoader loader = new URLClassLoader(new URL[] {room.toUri().toURL()}, library)) {
            Method main = loader.loadClass("Example").getMethod("main", String[].class);
            System.setOut(new PrintStream(printed, true, StandardCharsets.US_ASCII));
            main.invoke(null, (Object) new String[0]);
        } finally {
            System.setOut(usual);
        }
        return printed.toString(StandardCharsets.US_ASCII).replace(System.lineSeparator(), "\n");
    }

    private static void remove(Path room) throws IOException {
        try (Stream<Path> paths = Files.walk(room)) {
            List<Path> all = paths.sorted(Comparator.reverseOrder()).toList();
            for (Path path : all) {
                Files.delete(path);
            }
        }
    }
}
