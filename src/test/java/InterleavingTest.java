/**
 * Promises 6 and 7: small blocks whose transactions get in each other's way, with every order in
 * which three workers can make the first steps. Each must come out as the model says.
 */
public final class InterleavingTest {
    private static final int WORKERS = 3;
    private static final int STEPS = 9;
    private static final int ORDERS = 19683;

    private static final int[] STORES_FIVE = {Checks.SET, 0, 0, 5, Checks.STORE, 0, 0, 2};

    private static final int[][][] BLOCKS = {
        // The same cell is looked at twice, and changes in between.
        {STORES_FIVE,
            {Checks.LOAD, 0, 0, 2, Checks.LOAD, 1, 0, 2, Checks.PUT, 0, 0, 0, Checks.PUT, 1, 0, 0}},
        // It fails if it is too early, but not in the end.
        {STORES_FIVE,
            {Checks.LOAD, 0, 0, 2, Checks.NEED, 0, 0, 5, Checks.PUT, 0, 0, 0}},
        // It fails in the end, but not if it is too early.
        {STORES_FIVE,
            {Checks.LOAD, 0, 0, 2, Checks.STORE, 0, 0, 3, Checks.SUB, 1, 0, 0, Checks.PUT, 1, 0, 0,
                Checks.NEED, 1, 0, 0},
            {Checks.LOAD, 0, 0, 3, Checks.PUT, 0, 0, 0}},
        // What the registers held before it is carried out again must be forgotten.
        {STORES_FIVE,
            {Checks.SET, 3, 0, 1, Checks.LOAD, 0, 0, 2, Checks.ADD, 1, 3, 0, Checks.ADD, 1, 0, 0,
                Checks.STORE, 1, 0, 3, Checks.PUT, 1, 0, 0}},
        // It stores into another cell than it would if it were too early.
        {STORES_FIVE,
            {Checks.LOAD, 0, 0, 2, Checks.SET, 1, 0, 9, Checks.PLACE, 1, 0, 0},
            {Checks.LOAD, 0, 0, 5, Checks.LOAD, 1, 0, 0, Checks.PUT, 0, 0, 0, Checks.PUT, 1, 0, 0}},
        // What is stored by one that fails is not seen.
        {{Checks.SET, 0, 0, 5, Checks.STORE, 0, 0, 2, Checks.NEED, 0, 0, 6},
            {Checks.LOAD, 0, 0, 2, Checks.PUT, 0, 0, 0, Checks.STORE, 0, 0, 3},
            {Checks.LOAD, 0, 0, 3, Checks.PUT, 0, 0, 0}},
        // A later store into a cell that an earlier one looks at is not seen by it.
        {{Checks.LOAD, 0, 0, 2, Checks.PUT, 0, 0, 0, Checks.LOAD, 1, 0, 2, Checks.PUT, 1, 0, 0},
            STORES_FIVE,
            {Checks.SET, 0, 0, 6, Checks.STORE, 0, 0, 2},
            {Checks.LOAD, 0, 0, 2, Checks.PUT, 0, 0, 0}},
        // Two cells that belong together are seen together.
        {{Checks.SET, 0, 0, 5, Checks.STORE, 0, 0, 2, Checks.STORE, 0, 0, 3},
            {Checks.LOAD, 0, 0, 2, Checks.LOAD, 1, 0, 3, Checks.SUB, 0, 1, 0, Checks.PUT, 0, 0, 0,
                Checks.NEED, 0, 0, 0},
            {Checks.LOAD, 1, 0, 3, Checks.LOAD, 0, 0, 2, Checks.SUB, 0, 1, 0, Checks.PUT, 0, 0, 0,
                Checks.NEED, 0, 0, 0}},
    };

    public static void main(String[] args) {
        for (int number = 0; number < BLOCKS.length; number++) {
            for (int order = 0; order < ORDERS && Checks.wrongSoFar() < 20; order++) {
                check(number, order);
            }
        }
        Checks.end();
    }

    private static void check(int number, int order) {
        String p = "block " + number + ", order " + order + ": ";
        BlockExecutor x = new BlockExecutor(WORKERS);
        Model model = new Model();
        for (int[] code : BLOCKS[number]) {
            Checks.transaction(x, code);
            model.begin();
            for (int i = 0; i < code.length; i += 4) {
                model.add(code[i], Checks.places(code[i + 1], code[i + 2]), code[i + 3]);
            }
        }
        int rest = order;
        for (int i = 0; i < STEPS; i++) {
            Checks.due(p + "work", x.work(rest % WORKERS, 1), 0);
            Checks.due(p + "faults()", x.faults(), 0);
            rest /= WORKERS;
        }
        Checks.due(p + "digest() before the end", x.digest(), model.digest());
        Checks.due(p + "run", x.run(order * 0x1234567), model.run());
        Checks.due(p + "digest()", x.digest(), model.digest());
        Checks.due(p + "faults()", x.faults(), 0);
        for (int t = 0; t < x.transactions(); t++) {
            Checks.due(p + "result(" + t + ")", x.result(t), model.result(t));
            Checks.due(p + "outs(" + t + ")", x.outs(t), model.outs(t));
            Checks.due(p + "out(" + t + ", 0)", x.out(t, 0), model.out(t, 0));
            Checks.due(p + "out(" + t + ", 1)", x.out(t, 1), model.out(t, 1));
            Checks.due(p + "stored(" + t + ")", x.stored(t), model.stored(t));
        }
    }
}
