import java.io.IOException;
import java.nio.file.Files;
import java.nio.file.Path;
import java.util.regex.Matcher;
import java.util.regex.Pattern;

/** What can be seen in the text of the class of LANGUAGE.md, rules 2 to 6, 9 and 11 to 13. */
public final class LanguageTest {
    private static final String[] NOT_ALLOWED = {
        "\\bthrows?\\b", "\\btry\\b", "\\bcatch\\b", "\\bfinally\\b", "\\bsynchronized\\b", "\\bassert\\b", "->", "::",
        "Exact\\b", "\\bpackage\\b", "\\bequals\\b", "\\bhashCode\\b", "\\btoString\\b", "\\bSystem\\.(?!arraycopy)",
        "\\bRandom\\b", "\\bThread\\b", "\\bObject\\b", "\\bvar\\b", "\\bdouble\\b", "\\bfloat\\b", "\\bstatic \\{",
        "while \\(true\\)", "for \\(;",
        "import (?!java\\.util\\.Arrays;)", "Arrays\\.(?!fill|copyOf|copyOfRange)", "[^\\x00-\\xff]"
    };

    public static void main(String[] args) throws IOException {
        String text = Files.readString(Path.of("src/main/java/AimFronts.java"));
        String code = text.replaceAll("(?s)/\\*.*?\\*/", "").replaceAll("//[^\\n]*", "");
        for (String pattern : NOT_ALLOWED) {
            Matcher matcher = Pattern.compile(pattern).matcher(code);
            Check.holds("none of " + pattern, !matcher.find());
        }
        methodsAreShort(text.split("\\n"));
        Check.end();
    }

    /** A method's lines go from its head to the brace that stands as far in as the head. */
    private static void methodsAreShort(String[] lines) {
        int methods = 0;
        for (int i = 0; i < lines.length; i++) {
            Matcher head = Pattern.compile("^( +)[a-z][^=;]*\\) \\{$").matcher(lines[i]);
            if (head.find() && (head.group(1).length() == 4 || head.group(1).length() == 8) && !isStatement(lines[i])) {
                int end = i;
                while (!lines[end].equals(head.group(1) + "}")) {
                    end++;
                }
                Check.holds(lines[i].trim() + " is short", end - i < 60);
                methods++;
            }
        }
        Check.holds("methods were found", methods > 40);
    }

    private static boolean isStatement(String line) {
        return line.trim().matches("(if|for|while|do|switch|else)\\b.*");
    }
}
