import java.io.IOException;
import java.lang.reflect.Method;
import java.nio.file.Files;
import java.nio.file.Path;
import java.util.Map;
import java.util.regex.Matcher;
import java.util.regex.Pattern;

/** The calls in README.md's examples, made in their order, answer what the comments behind them say. */
public final class ReadmeTest {
    private static final Pattern EXAMPLES = Pattern.compile("(?s)```java\n(.*?)```");
    private static final Pattern MADE =
            Pattern.compile("BlockExecutor x = new BlockExecutor\\((-?\\d+)\\);.*");
    private static final Pattern CALL =
            Pattern.compile("x\\.(\\w+)\\((.*?)\\);\\s+// (-?\\d+|[A-Z]+)\\b.*");
    private static final Map<String, Integer> NAMES = Map.of("BAD", Checks.BAD, "FULL", Checks.FULL,
            "FINISHED", Checks.FINISHED, "RUNNING", Checks.RUNNING, "NONE", Checks.NONE);

    private static BlockExecutor x = new BlockExecutor(1);
    private static int calls = 0;

    public static void main(String[] args) throws IOException, ReflectiveOperationException {
        Matcher examples = EXAMPLES.matcher(Files.readString(Path.of("README.md")));
        while (examples.find()) {
            for (String line : examples.group(1).split("\n")) {
                follow(line);
            }
        }
        Checks.dueTrue("README.md has examples", calls > 0);
        Checks.end();
    }

    private static void follow(String line) throws ReflectiveOperationException {
        Matcher made = MADE.matcher(line);
        Matcher call = CALL.matcher(line);
        if (made.matches()) {
            x = new BlockExecutor(Integer.parseInt(made.group(1)));
        } else if (call.matches()) {
            calls++;
            int got = answer(call.group(1), call.group(2));
            String want = call.group(3);
            Checks.due(line, got, NAMES.containsKey(want) ? NAMES.get(want) : Integer.parseInt(want));
        } else {
            Checks.wrong("not understood: " + line);
        }
    }

    private static int answer(String name, String list) throws ReflectiveOperationException {
        String[] parts = list.isEmpty() ? new String[0] : list.split(",");
        Object[] numbers = new Object[parts.length];
        Class<?>[] types = new Class<?>[parts.length];
        for (int i = 0; i < parts.length; i++) {
            numbers[i] = sum(parts[i]);
            types[i] = int.class;
        }
        Method method = BlockExecutor.class.getMethod(name, types);
        return (int) method.invoke(x, numbers);
    }

    /** A number, or a sum of products such as 4 * 1 + 1. */
    private static int sum(String text) {
        int sum = 0;
        for (String term : text.split("\\+")) {
            int product = 1;
            for (String factor : term.split("\\*")) {
                product *= Integer.parseInt(factor.strip());
            }
            sum += product;
        }
        return sum;
    }
}
