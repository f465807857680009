import java.io.IOException;
import java.nio.file.Files;
import java.nio.file.Path;
import java.util.LinkedHashMap;
import java.util.Map;
import java.util.regex.Matcher;
import java.util.regex.Pattern;

/** README.md tells each call of the face and each constant, and its example answers as it says. */
public final class ReadmeTest {
    private static final Path README = Path.of("README.md");
    private static final Map<String, Integer> CONSTANTS = Map.of(
            "BAD", LacedPack.BAD, "NO", LacedPack.NO, "FULL", LacedPack.FULL, "NONE", LacedPack.NONE);

    public static void main(String[] args) throws IOException {
        Check check = new Check();
        String page = Files.readString(README);
        calls(check, page);
        constants(check, page);
        example(check, page);
        tests(check, page);
        check.end();
    }

    private static void calls(Check check, String page) {
        Map<String, Integer> told = new LinkedHashMap<>();
        Matcher row = Pattern.compile("(?m)^\\| `(\\w+)\\(([^)]*)\\)` +\\|").matcher(page);
        while (row.find()) {
            told.put(row.group(1), split(row.group(2)).length);
        }
        check.holds("the calls " + told.keySet() + " are those of the face", told.equals(FaceTest.FACE));
    }

    private static void constants(Check check, String page) {
        Map<String, Integer> told = new LinkedHashMap<>();
        Matcher row = Pattern.compile("(?m)^\\| `([A-Z]+)` +\\| (-\\d) +\\|").matcher(page);
        while (row.find()) {
            told.put(row.group(1), Integer.parseInt(row.group(2)));
        }
        check.holds("the constants " + told + " are those of the face", told.equals(CONSTANTS));
    }

    /** Does what the example does: the text between its quotes is written, then each line's call is made. */
    private static void example(Check check, String page) {
        Matcher text = Pattern.compile("for \\(char letter : \"([^\"]*)\"").matcher(page);
        check.holds("the example has a text", text.find());
        LacedPack pack = Runs.written(text.group(1));
        Matcher line = Pattern.compile("(?m)^pack\\.(\\w+)\\(([^)]*)\\); +// (-?\\w+):").matcher(page);
        int lines = 0;
        while (line.find()) {
            lines++;
            String[] told = split(line.group(2));
            int[] numbers = new int[told.length];
            for (int i = 0; i < told.length; i++) {
                numbers[i] = Integer.parseInt(told[i]);
            }
            Integer due = CONSTANTS.get(line.group(3));
            check.same(line.group(), Runs.call(pack, line.group(1), numbers),
                    due == null ? Integer.parseInt(line.group(3)) : due);
        }
        check.same("lines of the example with an answer", lines, page.split("(?m)^pack\\.").length - 1);
    }

    /** Each test of the project is told, and none that is not there. */
    private static void tests(Check check, String page) throws IOException {
        try (var files = Files.list(Path.of("src/test/java"))) {
            files.map(file -> file.getFileName().toString()).filter(name -> name.endsWith("Test.java")).forEach(
                    name -> check.holds(name + " is told", page.contains("`" + name.replace(".java", "") + "`")));
        }
        Matcher name = Pattern.compile("`(\\w+Test)`").matcher(page);
        while (name.find()) {
            check.holds(name.group(1) + " is there", Files.exists(Path.of("src/test/java", name.group(1) + ".java")));
        }
    }

    private static String[] split(String numbers) {
        return numbers.isBlank() ? new String[0] : numbers.split(", ");
    }
}
