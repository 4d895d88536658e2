import java.io.File;
import java.io.IOException;
import java.lang.reflect.Method;
import java.nio.charset.StandardCharsets;
import java.nio.file.Files;
import java.nio.file.Path;
import java.util.regex.Matcher;
import java.util.regex.Pattern;
import javax.tools.ToolProvider;

/** README.md: its program prints what the page says, and it names every call and every test. */
public final class ReadmeTest {
    private static final Check CHECK = new Check();
    private static final Path README = Path.of("README.md");
    private static final Path TESTS = Path.of("src/test/java");
    private static final String MAIN = "src/main/java/PermutationPuzzle.java";

    public static void main(String[] args) throws IOException, InterruptedException {
        String page = Files.readString(README);
        CHECK.due("the program prints", printedBy(block(page, "java")), block(page, "text"));
        calls(page);
        tests(page);
        CHECK.finish();
    }

    private static String block(String page, String kind) {
        Matcher matcher = Pattern.compile("(?s)```" + kind + "\n(.*?)```").matcher(page);
        return matcher.find() ? matcher.group(1) : "no block";
    }

    private static String printedBy(String program) throws IOException, InterruptedException {
        Path folder = Files.createTempDirectory("readme");
        try {
            Path source = Files.writeString(folder.resolve("Demo.java"), program);
            int faults = ToolProvider.getSystemJavaCompiler().run(null, null, null, "--release",
                    "17", "-d", folder.toString(), MAIN, source.toString());
            return faults == 0 ? output(folder) : "it does not compile";
        } finally {
            remove(folder);
        }
    }

    private static String output(Path folder) throws IOException, InterruptedException {
        Path java = Path.of(System.getProperty("java.home"), "bin", "java");
        Process process = new ProcessBuilder(java.toString(), "-cp", folder.toString(), "Demo")
                .redirectErrorStream(true).start();
        String printed = new String(process.getInputStream().readAllBytes(),
                StandardCharsets.UTF_8);
        return process.waitFor() == 0 ? printed : "it failed: " + printed;
    }

    private static void remove(Path folder) throws IOException {
        File[] files = folder.toFile().listFiles();
        for (File file : files == null ? new File[0] : files) {
            Files.delete(file.toPath());
        }
        Files.delete(folder);
    }

    private static void calls(String page) {
        for (Method method : PermutationPuzzle.class.getDeclaredMethods()) {
            if (java.lang.reflect.Modifier.isPublic(method.getModifiers())) {
                CHECK.due("the page names " + method.getName(),
                        page.contains('`' + method.getName() + '`'), true);
            }
        }
    }

    private static void tests(String page) {
        String[] files = TESTS.toFile().list((folder, name) -> name.endsWith("Test.java"));
        for (String file : files == null ? new String[] {"no test"} : files) {
            String name = file.replace(".java", "");
            CHECK.due("the page names " + name, page.contains("| `" + name + "` |"), true);
        }
    }
}
