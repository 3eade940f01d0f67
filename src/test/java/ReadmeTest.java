import java.io.ByteArrayOutputStream;
import java.io.IOException;
import java.io.PrintStream;
import java.lang.reflect.Method;
import java.lang.reflect.Modifier;
import java.nio.charset.StandardCharsets;
import java.nio.file.Files;
import java.nio.file.Path;
import java.util.ArrayList;
import java.util.List;

/** What README.md says is so: its example, what the example prints, the methods and the tests that it names. */
public final class ReadmeTest {
    private static final Path TESTS = Path.of("src/test/java");

    public static void main(String[] arguments) throws IOException {
        List<String> readme = Files.readAllLines(Path.of("README.md"), StandardCharsets.UTF_8);
        exampleIsThatOfTheFile(readme);
        examplePrintsWhatIsTold(readme);
        allMethodsAreNamed(String.join("\n", readme));
        allTestsAreNamed(String.join("\n", readme));
        Checks.end();
    }

    private static void exampleIsThatOfTheFile(List<String> readme) throws IOException {
        List<String> file = Files.readAllLines(TESTS.resolve("Example.java"), StandardCharsets.UTF_8);
        // The file's first line is a comment for those who read it alone.
        Checks.sameLook("the example", String.join("\n", blockBehind(readme, "```java")),
                String.join("\n", file.subList(1, file.size())));
    }

    private static void examplePrintsWhatIsTold(List<String> readme) {
        PrintStream console = System.out;
        ByteArrayOutputStream printed = new ByteArrayOutputStream();
        System.setOut(new PrintStream(printed, true, StandardCharsets.UTF_8));
        Example.main(new String[0]);
        System.setOut(console);
        Checks.sameLook("what the example prints", String.join("\n", blockBehind(readme, "```text")),
                String.join("\n", printed.toString(StandardCharsets.UTF_8).lines().toList()));
    }

    private static List<String> blockBehind(List<String> lines, String opening) {
        List<String> block = new ArrayList<>();
        for (int i = lines.indexOf(opening) + 1; i > 0 && i < lines.size() && !lines.get(i).equals("```"); i++) {
            block.add(lines.get(i));
        }
        return block;
    }

    private static void allMethodsAreNamed(String readme) {
        for (Method method : DroneCorridors.class.getDeclaredMethods()) {
            if (Modifier.isPublic(method.getModifiers())) {
                Checks.isTrue("README names " + method.getName(), readme.contains("`" + method.getName() + "("));
            }
        }
    }

    private static void allTestsAreNamed(String readme) throws IOException {
        try (var files = Files.list(TESTS)) {
            for (Path file : files.toList()) {
                String name = file.getFileName().toString().replace(".java", "");
                Checks.isTrue("README names " + name, readme.contains("`" + name + "`"));
            }
        }
    }
}
