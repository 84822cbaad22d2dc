import java.io.IOException;
import java.nio.file.Files;
import java.nio.file.Path;
import java.util.ArrayDeque;
import java.util.Deque;
import java.util.regex.Matcher;
import java.util.regex.Pattern;

/** Those rules of LANGUAGE.md that can be seen in the words of the source. Run at the project's root. */
public final class LanguageTest {
    private static final String LEFT_OUT = "\\b(import|package|float|double|String|Math|Integer|Long|System|Arrays|Object"
            + "|throw|throws|try|catch|finally|synchronized|assert|instanceof|null|enum|record|interface|protected"
            + "|hashCode|equals|toString|getClass|var)\\b|->|::|\"|\\[\\]\\[\\]";
    private static int wrong = 0;

    private static void refuse(String what, String pattern, String text) {
        Matcher m = Pattern.compile(pattern, Pattern.MULTILINE).matcher(text);
        while (m.find()) {
            wrong++;
            System.out.println(what + ": " + m.group().trim());
        }
    }

    /** A bracket right behind a name opens a call; behind a blank (if, for, a product) it does not. */
    private static void refuseNestedCalls(String code) {
        Deque<Boolean> open = new ArrayDeque<>();
        for (int k = 1; k < code.length(); k++) {
            if (code.charAt(k) == '(') {
                boolean call = Character.isJavaIdentifierPart(code.charAt(k - 1));
                if (call && open.contains(true)) {
                    wrong++;
                    System.out.println("a call inside the arguments of a call: " + code.substring(k - 20, k + 1).trim());
                }
                open.push(call);
            } else if (code.charAt(k) == ')') {
                open.pop();
            }
        }
    }

    public static void main(String[] args) throws IOException {
        String source = Files.readString(Path.of("src/main/java/SoundArchive.java"));
        String code = source.replaceAll("(?s)/\\*.*?\\*/", "").replaceAll("//.*", "");
        refuse("a word that is left out", LEFT_OUT, code);
        String fields = "(?m)^    private final (int|byte|boolean)\\[\\] \\w+ = new \\1\\[[A-Z_]+\\];$";
        refuse("an array that no field's initialiser makes", "^.*\\bnew\\b.*$", code.replaceAll(fields, ""));
        refuse("a static field that is no constant", "^.*\\bstatic\\b(?! final (int|long) [A-Z_]+ =)[^(\\n]*[=;{]$", code);
        refuse("a loop that is not counted", "\\b(while|do)\\b", code);
        refuseNestedCalls(code);
        if (wrong != 0) {
            System.exit(1);
        }
    }
}
