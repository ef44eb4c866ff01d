import java.io.ByteArrayOutputStream;
import java.io.PrintStream;
import java.net.URL;
import java.net.URLClassLoader;
import java.nio.charset.StandardCharsets;
import java.nio.file.Files;
import java.nio.file.Path;
import javax.tools.ToolProvider;

/** README.md's example compiles, and prints what stands behind it there. */
public final class ReadmeTest {
    public static void main(String[] args) throws Exception {
        String readme = Files.readString(Path.of("README.md"));
        String due = block(readme, "text");
        String got = run(block(readme, "java"));
        boolean good = !due.isEmpty() && got.equals(due);
        System.out.println(good ? "ReadmeTest: as due" : "ReadmeTest: the example printed\n" + got + "due is\n" + due);
        if (!good) {
            System.exit(1);
        }
    }

    private static String block(String readme, String kind) {
        int from = readme.indexOf("```" + kind + "\n") + kind.length() + 4;
        return readme.substring(from, readme.indexOf("```\n", from));
    }

    private static String run(String example) throws Exception {
        Path place = Files.createTempDirectory("readme");
        Path source = Files.writeString(place.resolve("Example.java"), example);
        int wrong = ToolProvider.getSystemJavaCompiler()
                .run(null, null, null, "-cp", System.getProperty("java.class.path"), "-d", place.toString(), source.toString());
        PrintStream before = System.out;
        ByteArrayOutputStream printed = new ByteArrayOutputStream();
        if (wrong == 0) {
            System.setOut(new PrintStream(printed, true, StandardCharsets.UTF_8));
            try (URLClassLoader loader = new URLClassLoader(new URL[] {place.toUri().toURL()})) {
                loader.loadClass("Example").getMethod("main", String[].class).invoke(null, (Object) new String[0]);
            } finally {
                System.setOut(before);
            }
        }
        try (var files = Files.list(place)) {
            for (Path file : files.toList()) {
                Files.delete(file);
            }
        }
        Files.delete(place);
        return printed.toString(StandardCharsets.UTF_8).replace(System.lineSeparator(), "\n");
    }
}
