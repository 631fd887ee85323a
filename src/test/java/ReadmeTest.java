import java.io.IOException;
import java.nio.file.Files;
import java.nio.file.Path;
import java.util.regex.Matcher;
import java.util.regex.Pattern;

/** README.md: the calls that it shows answer what it says, and it names every test of the project. */
public final class ReadmeTest {
    public static void main(String[] args) throws IOException {
        String readme = Files.readString(Path.of("README.md"));
        shownCalls(readme);
        namedTests(readme);
        Checks.close("ReadmeTest");
    }

    private static void shownCalls(String readme) {
        int from = readme.indexOf("```java");
        String shown = readme.substring(from, readme.indexOf("```", from + 3));
        Checks c = new Checks();
        int answers = 0;
        Matcher call = Pattern.compile("swap\\.(\\w+)\\(([^)]*)\\);(?: +// (-?\\d+))?").matcher(shown);
        while (call.find()) {
            int got = c.call(call.group(1), numbers(call.group(2)));
            if (call.group(3) != null) {
                answers++;
                Checks.check("README's " + call.group(), got, Integer.parseInt(call.group(3)));
            }
        }
        Checks.check("README shows calls with their answers", answers > 0 ? 1 : 0, 1);
    }

    private static int[] numbers(String list) {
        if (list.isBlank()) {
            return new int[0];
        }
        String[] parts = list.split(",");
        int[] numbers = new int[parts.length];
        for (int i = 0; i < parts.length; i++) {
            numbers[i] = Integer.decode(parts[i].strip());
        }
        return numbers;
    }

    private static void namedTests(String readme) throws IOException {
        try (var files = Files.newDirectoryStream(Path.of("src/test/java"), "*Test.java")) {
            for (Path file : files) {
                String name = file.getFileName().toString().replace(".java", "");
                Checks.check("README names " + name, readme.contains("`" + name + "`") ? 1 : 0, 1);
            }
        }
    }
}
