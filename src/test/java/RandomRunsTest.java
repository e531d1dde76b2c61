import java.util.Random;

/** All promises: long runs of calls, from fixed seeds, whose answers are held against the model's. */
public final class RandomRunsTest {
    private static final int RUNS = 6000;
    // Nothing is promised about an object after its 512th call.
    private static final int CALLS = 512;
    private static final int CALLS_TO_ASK_ALL = 2 + 16 + 8 * (3 + 12);

    public static void main(String[] args) {
        for (int seed = 0; seed < RUNS && Checks.wrongSoFar() < 20; seed++) {
            new RandomRunsTest(seed).run();
        }
        Checks.end();
    }

    private final Random random;
    private final int seed;
    private final int cells;
    private final BlockExecutor x;
    private final Model model = new Model();
    private int calls = 0;

    private RandomRunsTest(int seed) {
        this.seed = seed;
        random = new Random(seed);
        cells = 1 + random.nextInt(1 + random.nextInt(16));
        x = new BlockExecutor(random.nextInt(10) == 0 ? random.nextInt() : 1 + random.nextInt(9));
    }

    private void run() {
        while (calls < CALLS) {
            int kind = random.nextInt(100);
            if (model.phase() == 0) {
                build(kind);
            } else if (model.phase() == 1) {
                runOn(kind);
            } else {
                askOrGoOn(kind);
            }
        }
    }

    private void due(String call, int got, int want) {
        calls++;
        Checks.due("seed " + seed + ", call " + calls + ": " + call, got, want);
    }

    private void build(int kind) {
        if (kind < 70) {
            addSome();
        } else if (kind < 82) {
            due("begin()", x.begin(), model.begin());
        } else if (kind < 85) {
            due("undo()", x.undo(), model.undo());
        } else if (kind < 90) {
            pokeSome();
        } else if (kind < 93) {
            work();
        } else if (kind < 94) {
            runToTheEnd();
        } else {
            anything();
        }
    }

    private void runOn(int kind) {
        if (kind < 60) {
            work();
        } else if (kind < 80) {
            runToTheEnd();
        } else {
            anything();
        }
    }

    private void askOrGoOn(int kind) {
        if (kind < 20) {
            if (calls + CALLS_TO_ASK_ALL < CALLS) {
                askAll();
            }
            due("next()", x.next(), model.next());
        } else {
            anything();
        }
    }

    private int number() {
        int kind = random.nextInt(20);
        if (kind == 0) {
            return random.nextInt();
        }
        return kind < 3 ? random.nextInt(40) - 20 : random.nextInt(cells);
    }

    private void addSome() {
        int operation = random.nextInt(3) == 0 ? Checks.LOAD + random.nextInt(2) : random.nextInt(12);
        int places = random.nextInt(16);
        if (operation == Checks.STOP && random.nextInt(3) != 0) {
            operation = Checks.REACH;
        }
        if (random.nextInt(30) == 0) {
            operation = random.nextInt(20) - 4;
            places = random.nextInt(24) - 4;
        }
        int n = operation == Checks.NEED ? random.nextInt(6) - 4 : number();
        due("add(" + operation + ", " + places + ", " + n + ")", x.add(operation, places, n),
                model.add(operation, places, n));
    }

    private void pokeSome() {
        int cell = random.nextInt(20) - 2;
        int value = number();
        due("poke(" + cell + ", " + value + ")", x.poke(cell, value), model.poke(cell, value));
    }

    private void work() {
        int schedule = random.nextInt();
        int steps = random.nextInt(60) - 3;
        due("work(" + schedule + ", " + steps + ")", x.work(schedule, steps), model.work());
    }

    private void runToTheEnd() {
        int schedule = random.nextInt();
        due("run(" + schedule + ")", x.run(schedule), model.run());
    }

    private void anything() {
        int t = random.nextInt(11) - 1;
        int k = random.nextInt(15) - 1;
        switch (random.nextInt(16)) {
            case 0 -> due("begin()", x.begin(), model.begin());
            case 1 -> addSome();
            case 2 -> due("undo()", x.undo(), model.undo());
            case 3 -> pokeSome();
            case 4 -> work();
            case 5 -> due("phase()", x.phase(), model.phase());
            case 6 -> due("cell(" + k + ")", x.cell(k), model.cell(k));
            case 7 -> due("digest()", x.digest(), model.digest());
            case 8 -> due("transactions()", x.transactions(), model.transactions());
            case 9 -> due("result(" + t + ")", x.result(t), model.result(t));
            case 10 -> due("outs(" + t + ")", x.outs(t), model.outs(t));
            case 11 -> due("out(" + t + ", " + k + ")", x.out(t, k), model.out(t, k));
            case 12 -> due("stored(" + t + ")", x.stored(t), model.stored(t));
            case 13 -> due("faults()", x.faults(), 0);
            case 14 -> due("run(0)", x.run(0), model.run());
            default -> due("next()", x.next(), model.next());
        }
    }

    private void askAll() {
        due("digest()", x.digest(), model.digest());
        due("faults()", x.faults(), 0);
        for (int c = 0; c < 16; c++) {
            due("cell(" + c + ")", x.cell(c), model.cell(c));
        }
        for (int t = 0; t < 8; t++) {
            due("result(" + t + ")", x.result(t), model.result(t));
            due("outs(" + t + ")", x.outs(t), model.outs(t));
            due("stored(" + t + ")", x.stored(t), model.stored(t));
            for (int k = 0; k < 12; k++) {
                due("out(" + t + ", " + k + ")", x.out(t, k), model.out(t, k));
            }
        }
    }
}
