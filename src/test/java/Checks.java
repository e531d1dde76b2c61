/** What the tests have in common: they count the answers that are not the ones due. */
final class Checks {
    static final int BAD = -1;
    static final int FULL = -2;
    static final int FINISHED = -3;
    static final int RUNNING = -4;
    static final int NONE = -5;

    static final int MAX = Integer.MAX_VALUE;
    static final int MIN = Integer.MIN_VALUE;

    // A fault that shows everywhere would fill pages.
    private static final int MOST_LINES = 10;

    private static String about = "";
    private static int lines = 0;
    private static int wrong = 0;

    private Checks() {
    }

    /** What the checks that follow belong to; it stands before each wrong answer that is printed. */
    static void about(String what) {
        about = what;
        lines = 0;
    }

    static void due(String call, long got, long want) {
        if (got != want) {
            wrong(call + " answered " + got + ", due is " + want);
        }
    }

    static void dueTrue(String what, boolean holds) {
        if (!holds) {
            wrong("does not hold: " + what);
        }
    }

    static void wrong(String line) {
        wrong++;
        lines++;
        if (lines <= MOST_LINES) {
            System.out.println(about + line);
        } else if (lines == MOST_LINES + 1) {
            System.out.println(about + ".. and more");
        }
    }

    static int wrongSoFar() {
        return wrong;
    }

    static void end() {
        if (wrong != 0) {
            System.out.println(wrong + " answers are not as due");
            System.exit(1);
        }
    }

    /** Adds a transaction, its instructions in words. */
    static void transaction(BlockExecutor x, String... lines) {
        x.begin();
        for (int i = 0; i < lines.length; i++) {
            due("add of " + lines[i], add(x, lines[i]), i);
        }
    }

    /** Adds an instruction, in words. */
    static int add(BlockExecutor x, String line) {
        int[] code = Code.of(line);
        return x.add(code[0], code[1], code[2]);
    }

    /** All sixteen cells are as told; cells that are not told are 0. */
    static void dueCells(String when, BlockExecutor x, int... cells) {
        int sum = 0;
        for (int i = 0; i < 16; i++) {
            int want = i < cells.length ? cells[i] : 0;
            due(when + ": cell(" + i + ")", x.cell(i), want);
            sum += (i + 1) * want;
        }
        due(when + ": digest()", x.digest(), sum);
    }

    /** Transaction t is done and has put out these numbers, and no others. */
    static void dueOuts(String what, BlockExecutor x, int t, int... outs) {
        due(what + ": result(" + t + ")", x.result(t), 1);
        due(what + ": outs(" + t + ")", x.outs(t), outs.length);
        for (int k = 0; k < outs.length; k++) {
            due(what + ": out(" + t + ", " + k + ")", x.out(t, k), outs[k]);
        }
        due(what + ": out(" + t + ", " + outs.length + ")", x.out(t, outs.length), 0);
    }

    /** Transaction t failed, and nothing of it counts. */
    static void dueFailed(String what, BlockExecutor x, int t) {
        due(what + ": result(" + t + ")", x.result(t), 0);
        due(what + ": outs(" + t + ")", x.outs(t), 0);
        due(what + ": stored(" + t + ")", x.stored(t), 0);
        for (int k = 0; k < 12; k++) {
            due(what + ": out(" + t + ", " + k + ")", x.out(t, k), 0);
        }
    }
}
