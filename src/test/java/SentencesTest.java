import java.io.IOException;
import java.nio.file.Files;
import java.nio.file.Path;
import java.util.regex.Matcher;
import java.util.regex.Pattern;

/** The tests that src/test/SENTENCES.md names for the document's sentences exist and are run. */
public final class SentencesTest {
    private static final Pattern NAMED = Pattern.compile("`(\\w+Test)\\.(\\w+)`");

    public static void main(String[] args) throws IOException {
        int sentences = 0;
        for (String line : Files.readAllLines(Path.of("src/test/SENTENCES.md"))) {
            if (line.startsWith("| ") && !line.equals("| sentence | tests |")) {
                sentences++;
                namesTestsThatAreRun(line);
            }
        }
        Check.holds("SENTENCES.md has sentences", sentences > 0);
        Check.end();
    }

    private static void namesTestsThatAreRun(String line) throws IOException {
        Matcher named = NAMED.matcher(line);
        int tests = 0;
        while (named.find()) {
            tests++;
            Path source = Path.of("src/test/java", named.group(1) + ".java");
            String code = Files.exists(source) ? Files.readString(source) : "";
            String main = code.replaceAll("(?s).*(void main\\(.*?\n    \\}\n).*", "$1");
            Check.holds(named.group() + " exists", code.contains("    private static void " + named.group(2) + "() {\n"));
            Check.holds(named.group() + " is run", main.contains("        " + named.group(2) + "();\n"));
        }
        Check.holds("a test is named for: " + line, tests > 0);
    }
}
