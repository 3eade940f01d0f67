import java.io.IOException;
import java.nio.charset.StandardCharsets;
import java.nio.file.Files;
import java.nio.file.Path;
import java.util.List;
import java.util.regex.Pattern;

/** What of ../shared/LANGUAGE.md can be seen in the lines of the class. */
public final class LanguageTest {
    private static final String[] FORBIDDEN = {"->", "::", "\\btry\\b", "\\bcatch\\b", "\\bfinally\\b", "\\bassert\\b",
        "\\bsynchronized\\b", "\\bpackage\\b", "\\bstatic \\{", "\" \\+", "\\+ \"", "\\bnew [A-Z]\\w*<", "Exact\\b",
        "\\bSystem\\b", "\\bprotected\\b", "\\binstanceof\\b", "[^\\x00-\\x7f]", "\\bwhile \\(true\\)"};
    private static final List<String> IMPORTS = List.of("import java.util.Arrays;",
            "import java.util.NoSuchElementException;");

    public static void main(String[] arguments) throws IOException {
        List<String> lines = Files.readAllLines(Path.of("src/main/java/DroneCorridors.java"), StandardCharsets.UTF_8);
        int begun = 0;
        for (int i = 0; i < lines.size(); i++) {
            String line = lines.get(i);
            String code = line.replaceFirst("^\\s*(/\\*\\*|\\*|//).*", "");
            for (String forbidden : FORBIDDEN) {
                Checks.isTrue("line " + (i + 1) + " without " + forbidden, !Pattern.compile(forbidden).matcher(code).find());
            }
            Checks.isTrue("line " + (i + 1) + ": import", !code.startsWith("import") || IMPORTS.contains(code));
            if (code.matches("\\s+[^=]*\\) .*\\{") && code.matches(" {4}( {4})?\\S.*")) {
                begun = i;
            }
            if (code.matches(" {4}( {4})?\\}")) {
                Checks.isTrue("line " + (begun + 1) + ": a short method", i - begun <= 60 || code.matches(" {4}\\}"));
            }
        }
        Checks.end();
    }
}
