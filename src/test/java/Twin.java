/** The class and the model side by side: each call is made on both, and their answers must agree. */
final class Twin {
    // Nothing is promised about an object after its 512th call.
    static final int MOST_CALLS = 512;
    static final int MOST_CALLS_TO_ASK_ALL = 4 + 16 + 9 * 3 + 8 * 13 + 1;

    private final BlockExecutor x;
    private final Model model = new Model();
    private int calls = 0;

    Twin(int workers) {
        x = new BlockExecutor(workers);
    }

    private int agreed(String call, int got, int want) {
        calls++;
        if (calls > MOST_CALLS) {
            throw new IllegalStateException("the test makes more calls than are promised");
        }
        Checks.due("call " + calls + ": " + call, got, want);
        return want;
    }

    int calls() {
        return calls;
    }

    int begin() {
        return agreed("begin()", x.begin(), model.begin());
    }

    int add(int operation, int places, int n) {
        return agreed("add(" + operation + ", " + places + ", " + n + ")",
                x.add(operation, places, n), model.add(operation, places, n));
    }

    void transaction(String... lines) {
        begin();
        for (String line : lines) {
            int[] code = Code.of(line);
            add(code[0], code[1], code[2]);
        }
    }

    int undo() {
        return agreed("undo()", x.undo(), model.undo());
    }

    int poke(int cell, int value) {
        return agreed("poke(" + cell + ", " + value + ")", x.poke(cell, value),
                model.poke(cell, value));
    }

    int run(int schedule) {
        return agreed("run(" + schedule + ")", x.run(schedule), model.run());
    }

    int work(int schedule, int steps) {
        return agreed("work(" + schedule + ", " + steps + ")", x.work(schedule, steps),
                model.work());
    }

    int phase() {
        return agreed("phase()", x.phase(), model.phase());
    }

    int next() {
        return agreed("next()", x.next(), model.next());
    }

    int cell(int cell) {
        return agreed("cell(" + cell + ")", x.cell(cell), model.cell(cell));
    }

    int digest() {
        return agreed("digest()", x.digest(), model.digest());
    }

    int transactions() {
        return agreed("transactions()", x.transactions(), model.transactions());
    }

    int result(int t) {
        return agreed("result(" + t + ")", x.result(t), model.result(t));
    }

    int outs(int t) {
        return agreed("outs(" + t + ")", x.outs(t), model.outs(t));
    }

    int out(int t, int k) {
        return agreed("out(" + t + ", " + k + ")", x.out(t, k), model.out(t, k));
    }

    int stored(int t) {
        return agreed("stored(" + t + ")", x.stored(t), model.stored(t));
    }

    int faults() {
        return agreed("faults()", x.faults(), 0);
    }

    /** Which stage it is in, without a call on the class. */
    int modelPhase() {
        return model.phase();
    }

    /** Every question that has something to tell. */
    void askAll() {
        phase();
        transactions();
        digest();
        faults();
        for (int c = 0; c < 16; c++) {
            cell(c);
        }
        for (int t = 0; t <= model.transactions(); t++) {
            result(t);
            outs(t);
            stored(t);
            for (int k = 0; k <= Math.max(0, model.outs(t)); k++) {
                out(t, k);
            }
        }
    }
}
