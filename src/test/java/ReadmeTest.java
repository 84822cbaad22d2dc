import java.io.IOException;
import java.nio.file.Files;
import java.nio.file.Path;
import java.util.regex.Matcher;
import java.util.regex.Pattern;

/** The calls that README.md shows answer what it says there. Run at the project's root. */
public final class ReadmeTest {
    private static final Pattern EXAMPLE = Pattern.compile("(?s)```java\n(.*?)```");
    private static final Pattern CALL = Pattern.compile("archive\\.(\\w+\\([^)]*\\)); +// (-?\\w+):.*");

    private static String rows(String example) {
        StringBuilder rows = new StringBuilder();
        for (String line : example.split("\n")) {
            Matcher call = CALL.matcher(line);
            if (call.matches()) {
                rows.append(call.group(1)).append(" = ").append(call.group(2)).append("\n");
            } else if (!line.equals("SoundArchive archive = new SoundArchive();")) {
                throw new IllegalArgumentException("no call with its answer: " + line);
            }
        }
        return rows.toString();
    }

    public static void main(String[] args) throws IOException {
        Sentences sentences = new Sentences();
        Matcher example = EXAMPLE.matcher(Files.readString(Path.of("README.md")));
        while (example.find()) {
            sentences.test("README.md at " + example.start(), rows(example.group(1)));
        }
        sentences.end();
    }
}
