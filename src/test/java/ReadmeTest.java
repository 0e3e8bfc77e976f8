import java.io.File;
import java.io.IOException;
import java.lang.reflect.Method;
import java.lang.reflect.Modifier;
import java.nio.file.Files;
import java.nio.file.Path;
import java.util.TreeSet;
import java.util.regex.Matcher;
import java.util.regex.Pattern;

/** What README.md says: its example answers as it stands there, its tables name each call and each test. */
public final class ReadmeTest {
    private static final Pattern LINE =
        Pattern.compile("(?:(int|long) \\w+ = )?x\\.(\\w+)\\(([^()]*)\\); +// (-?\\d+|NONE|OUTSIDE|STATE|ROOM): .+");

    public static void main(String[] args) throws IOException {
        String text = Files.readString(Path.of("README.md"));
        example(between(text, "```java\n", "```").split("\n"));
        calls(text);
        tests(text);
        Check.end();
    }

    private static String between(String text, String head, String end) {
        int start = text.indexOf(head) + head.length();
        return text.substring(start, text.indexOf(end, start));
    }

    private static void example(String[] lines) {
        Check.holds("the example makes an object first", lines[0].equals("AimFronts x = new AimFronts();"));
        AimFronts x = new AimFronts();
        TreeSet<String> used = new TreeSet<>();
        for (int i = 1; i < lines.length; i++) {
            if (!lines[i].isEmpty()) {
                Matcher line = LINE.matcher(lines[i]);
                boolean isCall = line.matches();
                Check.holds("a call with its answer: " + lines[i], isCall);
                if (isCall) {
                    answers(x, line);
                    used.add(line.group(2));
                }
            }
        }
        Check.holds("the example has calls of most kinds", used.size() > 20);
    }

    private static void answers(AimFronts x, Matcher line) {
        String numbers = line.group(3).replace("AimFronts.NONE", String.valueOf(AimFronts.NONE)).replace(",", "");
        Check.due(line.group(), Script.answer(x, line.group(2) + " " + numbers), number(line.group(4)));
        boolean isLong = line.group(2).equals("volume");
        Check.holds("the type in " + line.group(), line.group(1) == null || line.group(1).equals("long") == isLong);
    }

    private static long number(String answer) {
        switch (answer) {
            case "NONE":
                return AimFronts.NONE;
            case "OUTSIDE":
                return AimFronts.OUTSIDE;
            case "STATE":
                return AimFronts.STATE;
            case "ROOM":
                return AimFronts.ROOM;
            default:
                return Long.parseLong(answer);
        }
    }

    /** Each public method, with as many parameters as it has, and no other. */
    private static void calls(String text) {
        TreeSet<String> due = new TreeSet<>();
        for (Method method : AimFronts.class.getDeclaredMethods()) {
            if (Modifier.isPublic(method.getModifiers())) {
                due.add(method.getName() + " " + method.getParameterCount());
            }
        }
        TreeSet<String> told = new TreeSet<>();
        Matcher call = Pattern.compile("`(\\w+)\\(([^()`]*)\\)`").matcher(between(text, "| call |", "\n\n"));
        while (call.find()) {
            int count = call.group(2).isEmpty() ? 0 : call.group(2).split(",").length;
            Check.holds(call.group() + " stands there once", told.add(call.group(1) + " " + count));
        }
        Check.holds("the table of calls has " + told + ", due is " + due, told.equals(due));
    }

    private static void tests(String text) {
        TreeSet<String> due = new TreeSet<>();
        for (String name : new File("src/test/java").list()) {
            if (name.endsWith("Test.java")) {
                due.add(name.replace(".java", ""));
            }
        }
        TreeSet<String> told = new TreeSet<>();
        Matcher row = Pattern.compile("(?m)^\\| `(\\w+Test)` \\|").matcher(text);
        while (row.find()) {
            Check.holds(row.group(1) + " stands there once", told.add(row.group(1)));
        }
        Check.holds("the table of tests has " + told + ", due is " + due, told.equals(due));
    }
}
