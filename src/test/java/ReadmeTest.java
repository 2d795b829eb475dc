import java.io.ByteArrayOutputStream;
import java.io.IOException;
import java.io.PrintStream;
import java.lang.reflect.Method;
import java.lang.reflect.Modifier;
import java.net.URL;
import java.net.URLClassLoader;
import java.nio.charset.StandardCharsets;
import java.nio.file.Files;
import java.nio.file.Path;
import java.util.List;
import java.util.stream.Stream;
import javax.tools.ToolProvider;

/** README.md tells what is so: its program runs and prints what it says, and every call and every test is named. */
public final class ReadmeTest {
    private static final Due DUE = new Due();

    public static void main(String[] args) throws Exception {
        String readme = Files.readString(Path.of("README.md"));
        program(readme);
        names(readme);
        DUE.close("ReadmeTest");
    }

    private static void program(String readme) throws Exception {
        Path room = Files.createTempDirectory("readme");
        Path source = room.resolve("Brook.java");
        Files.writeString(source, block(readme, "java"));
        int built = ToolProvider.getSystemJavaCompiler().run(null, null, null, "-cp", System.getProperty("java.class.path"),
            "-d", room.toString(), source.toString());
        DUE.is("the program is compiled", built, 0);
        if (built == 0) {
            DUE.is("it prints what README.md says", printed(room).equals(block(readme, "text")) ? 1 : 0, 1);
        }
        try (Stream<Path> files = Files.list(room)) {
            for (Path file : files.toList()) {
                Files.delete(file);
            }
        }
        Files.delete(room);
    }

    private static String printed(Path room) throws Exception {
        PrintStream out = System.out;
        ByteArrayOutputStream seen = new ByteArrayOutputStream();
        try (URLClassLoader loader = new URLClassLoader(new URL[] {room.toUri().toURL()})) {
            Method main = loader.loadClass("Brook").getMethod("main", String[].class);
            System.setOut(new PrintStream(seen, true, StandardCharsets.US_ASCII));
            main.invoke(null, (Object) new String[0]);
        } finally {
            System.setOut(out);
        }
        return seen.toString(StandardCharsets.US_ASCII).replace(System.lineSeparator(), "\n");
    }

    /** The first block of a kind. */
    private static String block(String readme, String kind) {
        String opens = "```" + kind + "\n";
        int from = readme.indexOf(opens);
        int to = from < 0 ? -1 : readme.indexOf("```", from + opens.length());
        return to < 0 ? "" : readme.substring(from + opens.length(), to);
    }

    private static void names(String readme) throws IOException {
        for (Method m : EelThroat.class.getDeclaredMethods()) {
            if (Modifier.isPublic(m.getModifiers())) {
                DUE.is("README.md names the call " + m.getName(), readme.contains("`" + m.getName() + "`") ? 1 : 0, 1);
            }
        }
        try (Stream<Path> files = Files.list(Path.of("src/test/java"))) {
            List<String> tests = files.map(f -> f.getFileName().toString().replace(".java", "")).toList();
            for (String test : tests) {
                if (test.endsWith("Test")) {
                    DUE.is("README.md names the test " + test, readme.contains("`" + test + "`") ? 1 : 0, 1);
                }
            }
        }
    }
}
