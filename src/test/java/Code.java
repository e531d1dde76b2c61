import java.util.List;

/**
 * Instructions in words: "ADD 1 2" has a = 1 and b = 2, "SET 1 -5" has a = 1 and n = -5, "PUT 1" has
 * a = 1. What an operation does not use is set to something that would show if it were used.
 */
final class Code {
    static final int SET = 0;
    static final int ADD = 1;
    static final int SUB = 2;
    static final int LOAD = 3;
    static final int STORE = 4;
    static final int MUL = 5;
    static final int SKIP = 6;
    static final int NEED = 7;
    static final int PUT = 8;
    static final int REACH = 9;
    static final int PLACE = 10;
    static final int STOP = 11;

    private static final List<String> NAMES = List.of("SET", "ADD", "SUB", "LOAD", "STORE", "MUL",
            "SKIP", "NEED", "PUT", "REACH", "PLACE", "STOP");
    private static final List<Integer> WITH_NUMBER = List.of(SET, LOAD, STORE, NEED);
    private static final int UNUSED_NUMBER = 3;
    private static final int UNUSED_PLACE = 2;

    private Code() {
    }

    /** Operation, places and n. */
    static int[] of(String line) {
        String[] words = line.split(" ");
        int operation = NAMES.indexOf(words[0]);
        if (operation < 0) {
            throw new IllegalArgumentException(line);
        }
        int a = words.length > 1 ? Integer.parseInt(words[1]) : UNUSED_PLACE;
        int other = words.length > 2 ? Integer.parseInt(words[2]) : UNUSED_PLACE;
        if (WITH_NUMBER.contains(operation)) {
            return new int[] {operation, 4 * a + UNUSED_PLACE, other};
        }
        return new int[] {operation, 4 * a + other, UNUSED_NUMBER};
    }
}
