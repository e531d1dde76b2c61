/**
 * Promises 6 and 7: small blocks whose transactions get in each other's way, with every order in
 * which three workers can make the first steps. Each must come out as the model says.
 */
public final class InterleavingTest {
    private static final int WORKERS = 3;
    private static final int STEPS = 9;
    private static final int ORDERS = 19683;

    private static final String[] STORES_FIVE = {"SET 0 5", "STORE 0 2"};

    private static final String[][][] BLOCKS = {
        // The same cell is looked at twice, and changes in between.
        {STORES_FIVE,
            {"LOAD 0 2", "LOAD 1 2", "PUT 0", "PUT 1"}},
        // It fails if it is too early, but not in the end.
        {STORES_FIVE,
            {"LOAD 0 2", "NEED 0 5", "PUT 0"}},
        // It fails in the end, but not if it is too early.
        {STORES_FIVE,
            {"LOAD 0 2", "STORE 0 3", "SUB 1 0", "PUT 1", "NEED 1 0"},
            {"LOAD 0 3", "PUT 0"}},
        // What the registers held before it is carried out again must be forgotten.
        {STORES_FIVE,
            {"SET 3 1", "LOAD 0 2", "ADD 1 3", "ADD 1 0", "STORE 1 3", "PUT 1"}},
        // It stores into another cell than it would if it were too early.
        {STORES_FIVE,
            {"LOAD 0 2", "SET 1 9", "PLACE 1 0"},
            {"LOAD 0 5", "LOAD 1 0", "PUT 0", "PUT 1"}},
        // What is stored by one that fails is not seen.
        {{"SET 0 5", "STORE 0 2", "NEED 0 6"},
            {"LOAD 0 2", "PUT 0", "STORE 0 3"},
            {"LOAD 0 3", "PUT 0"}},
        // A later store into a cell that an earlier one looks at is not seen by it.
        {{"LOAD 0 2", "PUT 0", "LOAD 1 2", "PUT 1"},
            STORES_FIVE,
            {"SET 0 6", "STORE 0 2"},
            {"LOAD 0 2", "PUT 0"}},
        // Two cells that belong together are seen together.
        {{"SET 0 5", "STORE 0 2", "STORE 0 3"},
            {"LOAD 0 2", "LOAD 1 3", "SUB 0 1", "PUT 0", "NEED 0 0"},
            {"LOAD 1 3", "LOAD 0 2", "SUB 0 1", "PUT 0", "NEED 0 0"}},
        // It puts out more if it is too early than in the end, and less.
        {STORES_FIVE,
            {"LOAD 0 2", "SET 1 1", "SKIP 0 1", "STOP", "PUT 0", "PUT 1"},
            {"LOAD 0 2", "SET 1 1", "SKIP 1 0", "STOP", "PUT 0", "PUT 1"}},
        // It passes over the position after its last one, or over its last one, if it is too early.
        {STORES_FIVE,
            {"LOAD 0 2", "SET 1 1", "PUT 0", "SKIP 0 1", "PUT 1"},
            {"LOAD 0 2", "SET 1 1", "PUT 0", "SKIP 0 1"}},
    };

    public static void main(String[] args) {
        for (int number = 0; number < BLOCKS.length; number++) {
            for (int order = 0; order < ORDERS && Checks.wrongSoFar() < 20; order++) {
                check(number, order);
            }
        }
        Checks.end();
    }

    private static void check(int number, int order) {
        Checks.about("block " + number + ", order " + order + ": ");
        Twin x = new Twin(WORKERS);
        for (String[] lines : BLOCKS[number]) {
            x.transaction(lines);
        }
        // Each has one in hand before the first step that is chosen.
        x.work(0, Math.min(WORKERS, BLOCKS[number].length));
        int rest = order;
        for (int i = 0; i < STEPS; i++) {
            x.work(rest % WORKERS, 1);
            x.faults();
            rest /= WORKERS;
        }
        x.digest();
        x.run(order * 0x1234567);
        x.askAll();
    }
}
