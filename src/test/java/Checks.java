/** What the tests have in common: they count the answers that are not the ones due. */
final class Checks {
    static final int BAD = -1;
    static final int FULL = -2;
    static final int FINISHED = -3;
    static final int RUNNING = -4;
    static final int NONE = -5;

    static final int SET = 0;
    static final int ADD = 1;
    static final int SUB = 2;
    static final int LOAD = 3;
    static final int STORE = 4;
    static final int MUL = 5;
    static final int SKIP = 6;
    static final int NEED = 7;
    static final int PUT = 8;
    static final int REACH = 9;
    static final int PLACE = 10;
    static final int STOP = 11;

    private static int wrong = 0;

    private Checks() {
    }

    static void due(String call, long got, long want) {
        if (got != want) {
            wrong++;
            System.out.println(call + " answered " + got + ", due is " + want);
        }
    }

    static void dueTrue(String what, boolean holds) {
        if (!holds) {
            wrong++;
            System.out.println("does not hold: " + what);
        }
    }

    static int wrongSoFar() {
        return wrong;
    }

    static void end() {
        if (wrong != 0) {
            System.out.println(wrong + " answers are not as due");
            System.exit(1);
        }
    }

    static int places(int a, int b) {
        return 4 * a + b;
    }

    /** Adds a transaction; the code is a list of operation, a, b, n. */
    static void transaction(BlockExecutor x, int... code) {
        x.begin();
        for (int i = 0; i + 3 < code.length; i += 4) {
            int position = x.add(code[i], places(code[i + 1], code[i + 2]), code[i + 3]);
            due("add, position", position, i / 4);
        }
    }

    /** All sixteen cells are as told; cells that are not told are 0. */
    static void dueCells(String when, BlockExecutor x, int... cells) {
        int sum = 0;
        for (int i = 0; i < 16; i++) {
            int want = i < cells.length ? cells[i] : 0;
            due(when + ": cell(" + i + ")", x.cell(i), want);
            sum += (i + 1) * want;
        }
        due(when + ": digest()", x.digest(), sum);
    }
}
