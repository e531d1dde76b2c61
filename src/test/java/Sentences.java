import java.io.IOException;
import java.nio.file.Files;
import java.nio.file.Path;
import java.util.LinkedHashMap;
import java.util.List;
import java.util.Map;
import java.util.Set;
import java.util.TreeSet;

/**
 * The sentences of the document, each with the tests that hold the class to it. A test names the
 * part (the promise) it belongs to and quotes the words it is about; they must stand in that part.
 */
final class Sentences {
    private static final Set<String> WITHOUT_TESTS = Set.of("The public face", "Not promised");

    private final Map<String, String> parts = new LinkedHashMap<>();
    private final Map<String, boolean[]> quoted = new LinkedHashMap<>();
    private String part = "";
    private int tests = 0;

    Sentences(Path document) throws IOException {
        if (!Files.exists(document)) {
            System.out.println(document + " is not here: the quoted words are not looked up");
            return;
        }
        String[] texts = Files.readString(document).split("(?m)^## ");
        for (int i = 1; i < texts.length; i++) {
            String[] headAndText = texts[i].split("\n", 2);
            String name = headAndText[0].replaceAll("^(Promise \\d+):.*", "$1").strip();
            parts.put(name, plain(headAndText[1]));
            quoted.put(name, new boolean[parts.get(name).length()]);
        }
    }

    // The table of operations has two columns: each of its entries counts as a sentence.
    private static String plain(String text) {
        return text.replaceAll("\\s{3,}(?=\\d+ [A-Z])", "; ").replaceAll("```\\w*", ";")
                .replaceAll("\\s+", " ").strip();
    }

    /** The tests that follow belong to this part of the document. */
    void part(String name) {
        part = name;
    }

    /** Runs a test of its own for these words. */
    void test(String words, Runnable body) {
        tests++;
        Checks.about(part + ", \"" + words + "\": ");
        markQuoted(words);
        try {
            body.run();
        } catch (RuntimeException e) {
            Checks.wrong("a call threw " + e);
        }
        Checks.about("");
    }

    private void markQuoted(String words) {
        if (parts.isEmpty()) {
            return;
        }
        int at = parts.getOrDefault(part, "").indexOf(words);
        Checks.dueTrue("these words stand in that part of the document", at >= 0);
        if (at >= 0) {
            for (int i = at; i < at + words.length(); i++) {
                quoted.get(part)[i] = true;
            }
        }
    }

    /** Each sentence of the document, and each half of one that ends with a semicolon, has a test. */
    void dueAllTested() {
        for (String name : parts.keySet()) {
            if (!WITHOUT_TESTS.contains(name)) {
                for (String sentence : untested(name)) {
                    Checks.about(name + ", \"" + sentence + "\": ");
                    Checks.wrong("there is no test of it");
                }
            }
        }
        System.out.println(tests + " tests of sentences of the document");
    }

    private Set<String> untested(String name) {
        Set<String> found = new TreeSet<>();
        int at = 0;
        for (String sentence : List.of(parts.get(name).split("(?<=[A-Za-z0-9)\"]\\.|;)\\s"))) {
            boolean tested = sentence.equals(";");
            for (int i = at; i < at + sentence.length(); i++) {
                tested |= quoted.get(name)[i];
            }
            if (!tested) {
                found.add(sentence);
            }
            at += sentence.length() + 1;
        }
        return found;
    }
}
