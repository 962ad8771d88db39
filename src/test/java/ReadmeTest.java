import java.io.IOException;
import java.lang.reflect.Method;
import java.lang.reflect.Modifier;
import java.nio.file.Files;
import java.nio.file.Path;
import java.util.HashSet;
import java.util.List;
import java.util.Set;
import java.util.regex.Matcher;
import java.util.regex.Pattern;

/** The example in README.md answers as it says there, and the file names the whole public face. */
public final class ReadmeTest {
    private static final Pattern CALL =
            Pattern.compile("x\\.(\\w+)\\((-?\\d+)(?:, (-?\\d+))?\\); +// (-?\\d+|true|false)(:.*)?");

    public static void main(String[] args) throws IOException {
        Due due = new Due("ReadmeTest");
        List<String> lines = Files.readAllLines(Path.of("README.md"));
        Set<String> called = tryExample(due, lines);
        String whole = String.join("\n", lines);
        for (Method method : SuffixWorkbench.class.getDeclaredMethods()) {
            if (Modifier.isPublic(method.getModifiers())) {
                due.is("the example calls " + method.getName(), called.contains(method.getName()), true);
                due.is("the table has " + method, whole.contains(rowOf(method)), true);
            }
        }
        due.is("the table has the constructor", whole.contains("\n| `SuffixWorkbench()` |"), true);
        due.is("the table has BAD", whole.contains("\n| `int BAD` | " + SuffixWorkbench.BAD + " |"), true);
        due.is("the table has FULL", whole.contains("\n| `int FULL` | " + SuffixWorkbench.FULL + " |"), true);
        due.end();
    }

    private static Set<String> tryExample(Due due, List<String> lines) {
        Set<String> called = new HashSet<>();
        Pair pair = new Pair(due);
        for (String line : lines) {
            if (!line.startsWith("x.")) {
                continue;
            }
            Matcher call = CALL.matcher(line);
            due.is("a call and its answer can be read in: " + line, call.matches(), true);
            if (call.matches()) {
                called.add(call.group(1));
                due.is(line, answer(pair, call), number(call.group(4)));
            }
        }
        return called;
    }

    private static int answer(Pair pair, Matcher call) {
        int first = Integer.parseInt(call.group(2));
        if (call.group(3) == null) {
            return pair.send(call.group(1), first);
        }
        return pair.send(call.group(1), first, Integer.parseInt(call.group(3)));
    }

    private static int number(String answer) {
        return switch (answer) {
            case "true" -> 1;
            case "false" -> 0;
            default -> Integer.parseInt(answer);
        };
    }

    /** The beginning of a method's row, with a name for each parameter. */
    private static String rowOf(Method method) {
        String name = method.getName();
        String parameters = switch (name) {
            case "write" -> "int letter, int n";
            case "again" -> "int back, int n";
            case "change" -> "int i, int letter";
            case "cut" -> "int n";
            case "extend" -> "int letter";
            case "copy" -> "int i, int n";
            case "count", "distinct", "longest" -> "int engine";
            case "where", "tail" -> "int engine, int k";
            case "agree" -> "int engine, int other";
            case "piece" -> "int k";
            case "common" -> "int i, int j";
            case "repeats" -> "int t";
            case "unique" -> "int i";
            default -> throw new IllegalArgumentException(name);
        };
        return "\n| `" + method.getReturnType() + " " + name + "(" + parameters + ")` |";
    }
}
