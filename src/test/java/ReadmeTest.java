import java.io.IOException;
import java.lang.reflect.Method;
import java.lang.reflect.Modifier;
import java.nio.file.Files;
import java.nio.file.Path;
import java.util.ArrayList;
import java.util.List;
import java.util.regex.Matcher;
import java.util.regex.Pattern;

/** Makes the calls that README.md shows, as they stand there, and compares the answers it tells. */
public final class ReadmeTest {
    private static final Path README = Path.of("README.md");
    private static final Path TESTS = Path.of("src/test/java");

    private static final String NEW_OBJECT = "WordSmith smith = new WordSmith();";
    private static final Pattern CALL =
            Pattern.compile("smith\\.(\\w+\\([^)]*\\)); +// (true|false|-?\\d+)(?:: (.+))?");
    private static final Pattern ROW = Pattern.compile("\\| `([^`]*)` \\| `(-?\\d+)` \\| (.+) \\|");
    private static final Pattern LATER = Pattern.compile("`(\\w+\\([^)]*\\))` is `(-?\\d+)`");
    private static final Pattern NAMED_TEST = Pattern.compile("`(\\w+Test)`");

    public static void main(String[] args) throws IOException {
        List<String> lines = Files.readAllLines(README);
        shownCalls(between(lines, "```java", "```"));
        shownTexts(between(lines, "| text | `run()` | then |", ""));
        everyCallIsTold(String.join("\n", lines));
        testsAreTold(String.join("\n", lines));
        Talk.end();
    }

    /** The lines behind the first that is the one, before the next that is the other. */
    private static List<String> between(List<String> lines, String first, String last) {
        int from = lines.indexOf(first) + 1;
        List<String> found = new ArrayList<>();
        for (int k = from; from > 0 && k < lines.size() && !lines.get(k).equals(last); k++) {
            found.add(lines.get(k));
        }
        return found;
    }

    private static void shownCalls(List<String> lines) {
        Talk t = new Talk("README.md, calls");
        t.due("the block begins with '" + NEW_OBJECT + "'", lines.indexOf(NEW_OBJECT), 0);
        int calls = 0;
        for (int k = 1; k < lines.size(); k++) {
            Matcher shown = CALL.matcher(lines.get(k));
            t.due("a call and its answer: " + lines.get(k), flag(shown.matches()), 1);
            if (shown.matches()) {
                calls++;
                t.due(lines.get(k), answer(t.smith, shown.group(1)), number(shown.group(2)));
                sayWhatIsTyped(t, shown.group(1), shown.group(3));
            }
        }
        t.due("some calls are shown", flag(calls > 0), 1);
    }

    /** Where a piece is shown as a text too, its bytes are the characters of that text. */
    private static void sayWhatIsTyped(Talk t, String call, String remark) {
        if (remark == null || !remark.startsWith("\"")) {
            return;
        }
        int[] given = numbers(call);
        StringBuilder typed = new StringBuilder();
        for (int k = given[1] - 1; k >= 0; k--) {
            typed.append((char) (given[0] >>> 8 * k & 255));
        }
        t.due(call + " types " + remark, flag(remark.equals("\"" + typed + "\"")), 1);
    }

    private static void shownTexts(List<String> lines) {
        Talk all = new Talk("README.md, texts");
        all.due("some texts are shown", flag(lines.size() > 1), 1);
        for (int k = 1; k < lines.size(); k++) {
            Matcher row = ROW.matcher(lines.get(k));
            all.due("a text and its answers: " + lines.get(k), flag(row.matches()), 1);
            if (row.matches()) {
                shownText(row.group(1), row.group(2), row.group(3));
            }
        }
    }

    private static void shownText(String text, String answer, String then) {
        Talk t = new Talk("README.md, '" + text + "'").type(text);
        t.due("run()", t.smith.run(), number(answer));
        int parts = then.split(", `").length;
        int found = 0;
        for (Matcher later = LATER.matcher(then); later.find(); found++) {
            t.due(later.group(1), answer(t.smith, later.group(1)), number(later.group(2)));
        }
        t.due("answers that were understood in " + then, found, parts);
    }

    private static void everyCallIsTold(String readme) {
        Talk t = new Talk("README.md, the face");
        for (Method method : WordSmith.class.getDeclaredMethods()) {
            if (Modifier.isPublic(method.getModifiers())) {
                t.due(method.getName(), flag(readme.contains("\n| `" + method.getName() + "(")), 1);
            }
        }
    }

    /** Each test that is named is there, and each that is there is named or is one of a promise. */
    private static void testsAreTold(String readme) throws IOException {
        Talk t = new Talk("README.md, tests");
        for (Matcher named = NAMED_TEST.matcher(readme); named.find();) {
            t.due(named.group(1), flag(Files.exists(TESTS.resolve(named.group(1) + ".java"))), 1);
        }
        try (var files = Files.newDirectoryStream(TESTS, "*Test.java")) {
            for (Path file : files) {
                String name = file.getFileName().toString().replace(".java", "");
                boolean told = name.matches("Promise\\d\\d\\w+") || readme.contains("`" + name + "`");
                t.due(name + " is told", flag(told), 1);
            }
        }
    }

    private static int answer(WordSmith smith, String call) {
        int[] given = numbers(call);
        switch (call.substring(0, call.indexOf('('))) {
            case "type":
                return flag(smith.type(given[0], given[1]));
            case "run":
                return smith.run();
            case "count":
                return smith.count(given[0]);
            case "stack":
                return smith.stack(given[0]);
            case "out":
                return smith.out(given[0]);
            case "cell":
                return smith.cell(given[0]);
            case "disk":
                return smith.disk(given[0], given[1]);
            case "items":
                return smith.items(given[0]);
            case "buffer":
                return smith.buffer(given[0]);
            default:
                throw new IllegalArgumentException("no such call: " + call);
        }
    }

    private static int[] numbers(String call) {
        String inside = call.substring(call.indexOf('(') + 1, call.indexOf(')'));
        if (inside.isEmpty()) {
            return new int[0];
        }
        String[] parts = inside.split(", ");
        int[] found = new int[parts.length];
        for (int k = 0; k < parts.length; k++) {
            found[k] = Integer.decode(parts[k]);
        }
        return found;
    }

    private static int number(String answer) {
        switch (answer) {
            case "true":
                return 1;
            case "false":
                return 0;
            default:
                return Integer.parseInt(answer);
        }
    }

    private static int flag(boolean holds) {
        return holds ? 1 : 0;
    }
}
