import java.io.IOException;
import java.nio.file.Files;
import java.nio.file.Path;
import java.util.LinkedHashMap;
import java.util.List;
import java.util.Map;
import java.util.Set;
import java.util.TreeSet;
import java.util.regex.Matcher;
import java.util.regex.Pattern;

/** The rules of LANGUAGE.md that can be seen from the program's text; each check names its rule. */
public final class LanguageTest {
    private static final Path SOURCE = Path.of("src/main/java/BlockExecutor.java");
    private static final String FORBIDDEN_WORDS = "package import throw throws try catch synchronized"
            + " assert instanceof null float double String Math Integer System Arrays Object Thread"
            + " interface enum record protected getClass hashCode toString equals clone notify wait";
    private static final Set<String> NO_METHODS = Set.of("if", "for", "while", "switch", "return");
    private static final Pattern METHOD = Pattern.compile("(?ms)^    (?:public|private)"
            + " (?:[\\w\\[\\]]+ )?(\\w+)\\([^)]*\\) \\{$(.*?)^    \\}$");
    private static final Pattern CALL = Pattern.compile("\\b([A-Za-z_]\\w*)\\(");
    private static final Pattern MADE_ARRAY =
            Pattern.compile("(?m)^    private final \\w+\\[\\] \\w+ = new \\w+\\[[A-Z_]+\\];$");
    private static final int LONGEST = 60;
    private static final int DEEPEST = 6;

    public static void main(String[] args) throws IOException {
        String code = Files.readString(SOURCE).replaceAll("(?s)/\\*.*?\\*/", " ")
                .replaceAll("//[^\n]*", " ");
        words(code);
        arrays(code);
        Map<String, String> bodies = bodies(code);
        lengths(bodies);
        depths(bodies);
        callsInArguments(bodies);
        loops(code);
        Checks.end();
    }

    private static void words(String code) {
        Set<String> forbidden = Set.of(FORBIDDEN_WORDS.split(" "));
        Matcher word = Pattern.compile("[A-Za-z_]\\w*").matcher(code);
        while (word.find()) {
            Checks.dueTrue("rules 2, 3, 6, 11: the word " + word.group() + " is not used",
                    !forbidden.contains(word.group()));
        }
        for (String sign : List.of("->", "::", "@", "\"", "[][]", "[] [")) {
            Checks.dueTrue("rules 2, 6: the sign " + sign + " is not used", !code.contains(sign));
        }
    }

    private static int found(Pattern pattern, String text) {
        return (int) pattern.matcher(text).results().count();
    }

    private static void arrays(String code) {
        Checks.due("rule 4: places where one is made that are no field with a constant length",
                found(Pattern.compile("\\bnew\\b"), code) - found(MADE_ARRAY, code), 0);
    }

    private static Map<String, String> bodies(String code) {
        Map<String, String> bodies = new LinkedHashMap<>();
        Matcher method = METHOD.matcher(code);
        while (method.find()) {
            Checks.dueTrue("one method is named " + method.group(1),
                    bodies.put(method.group(1), method.group(2)) == null);
        }
        Checks.due("methods whose bodies were found, with the constructor", bodies.size(),
                BlockExecutor.class.getDeclaredMethods().length + 1);
        return bodies;
    }

    private static void lengths(Map<String, String> bodies) {
        for (String name : bodies.keySet()) {
            Checks.dueTrue("rule 10: " + name + " is short",
                    bodies.get(name).lines().count() <= LONGEST);
        }
    }

    private static Set<String> calls(String text) {
        Set<String> called = new TreeSet<>();
        Matcher call = CALL.matcher(text);
        while (call.find()) {
            if (!NO_METHODS.contains(call.group(1))) {
                called.add(call.group(1));
            }
        }
        return called;
    }

    /** Round by round, each method gets one more than the deepest that it calls has. */
    private static void depths(Map<String, String> bodies) {
        Map<String, Integer> depths = new LinkedHashMap<>();
        for (int round = 0; round <= DEEPEST; round++) {
            for (String name : bodies.keySet()) {
                int deepest = 0;
                for (String called : calls(bodies.get(name))) {
                    Checks.dueTrue("rule 3: " + called + " is its own", bodies.containsKey(called));
                    deepest = Math.max(deepest, depths.getOrDefault(called, 0));
                }
                depths.put(name, deepest + 1);
            }
        }
        for (String name : depths.keySet()) {
            Checks.dueTrue("rules 8, 10: calls from " + name + " go " + depths.get(name) + " deep",
                    depths.get(name) <= DEEPEST);
        }
    }

    private static void callsInArguments(Map<String, String> bodies) {
        for (String name : bodies.keySet()) {
            Matcher call = CALL.matcher(bodies.get(name));
            while (call.find()) {
                if (!NO_METHODS.contains(call.group(1))) {
                    String given = upToItsEnd(bodies.get(name).substring(call.end()));
                    Checks.due("rule 10: calls in the arguments of " + call.group(1) + " in " + name,
                            calls(given).size(), 0);
                }
            }
        }
    }

    private static String upToItsEnd(String text) {
        int open = 1;
        int at = 0;
        while (open > 0) {
            open += text.charAt(at) == '(' ? 1 : text.charAt(at) == ')' ? -1 : 0;
            at++;
        }
        return text.substring(0, at);
    }

    private static void loops(String code) {
        int counted = found(Pattern.compile("\\bfor \\(int (\\w+) = \\w[\\w ]*(?:- 1)?;"
                + " \\1 (?:<|>=) [^;]*; \\1(?:\\+\\+|--)\\)"), code);
        Checks.due("rule 8: loops without a counter against a bound",
                found(Pattern.compile("\\b(?:for|while|do)\\b"), code) - counted, 0);
    }
}
