import java.io.IOException;
import java.nio.file.Files;
import java.nio.file.Path;
import java.util.regex.Matcher;
import java.util.regex.Pattern;

/** The example of README.md: each call in it answers the number that its comment begins with. */
final class ReadmeTest {
    private static final Pattern TEXT = Pattern.compile("for \\(char c : \"([^\"]*)\"");
    private static final Pattern CALL = Pattern.compile("x\\.(\\w+)\\(([-0-9, ]*)\\); +// (-?\\d+).*");
    private static final Check check = new Check();

    public static void main(String[] args) throws IOException {
        String readme = Files.readString(Path.of("README.md"));
        String example = readme.substring(readme.indexOf("```java"), readme.lastIndexOf("```"));
        SprayedLetters x = new SprayedLetters();
        int calls = 0;
        for (String line : example.split("\n")) {
            Matcher text = TEXT.matcher(line);
            if (text.find()) {
                Check.feed(x, text.group(1));
            }
            Matcher call = CALL.matcher(line);
            if (call.matches()) {
                calls++;
                check.due(line, row(call).of(x), Integer.parseInt(call.group(3)));
            }
        }
        check.due("calls in the example", calls > 10);
        check.due("it says how to run the tests", readme.contains(".ci/run"));
        check.finish();
    }

    private static Row row(Matcher call) {
        String list = call.group(2).trim();
        String[] parts = list.isEmpty() ? new String[0] : list.split(", *");
        int[] numbers = new int[parts.length];
        for (int i = 0; i < parts.length; i++) {
            numbers[i] = Integer.parseInt(parts[i]);
        }
        return new Row(call.group(1), numbers);
    }
}
