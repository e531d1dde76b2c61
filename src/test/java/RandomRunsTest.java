import java.util.Random;

/** All promises: long runs of calls, from fixed seeds, whose answers are held against the model's. */
public final class RandomRunsTest {
    private static final int RUNS = 6000;
    private static final int[] EDGES = {Checks.MIN, Checks.MIN + 1, -17, -16, -1, 0, 1, 7, 8, 11, 12, 15,
        16, 17, Checks.MAX - 1, Checks.MAX};

    public static void main(String[] args) {
        for (int seed = 0; seed < RUNS && Checks.wrongSoFar() < 20; seed++) {
            Checks.about("seed " + seed + ", ");
            new RandomRunsTest(seed).run();
        }
        Checks.end();
    }

    private final Random random;
    private final int cells;
    private final Twin x;

    private RandomRunsTest(int seed) {
        random = new Random(seed);
        cells = 1 + random.nextInt(1 + random.nextInt(16));
        x = new Twin(random.nextInt(10) == 0 ? random.nextInt() : 1 + random.nextInt(9));
    }

    private void run() {
        while (x.calls() < Twin.MOST_CALLS) {
            int kind = random.nextInt(100);
            if (x.modelPhase() == 0) {
                build(kind);
            } else if (x.modelPhase() == 1) {
                runOn(kind);
            } else {
                askOrGoOn(kind);
            }
        }
    }

    private void build(int kind) {
        if (kind < 70) {
            addSome();
        } else if (kind < 82) {
            x.begin();
        } else if (kind < 85) {
            x.undo();
        } else if (kind < 90) {
            x.poke(random.nextInt(20) - 2, number());
        } else if (kind < 93) {
            work();
        } else if (kind < 94) {
            x.run(random.nextInt());
        } else {
            anything();
        }
    }

    private void runOn(int kind) {
        if (kind < 60) {
            work();
        } else if (kind < 80) {
            x.run(random.nextInt());
        } else {
            anything();
        }
    }

    private void askOrGoOn(int kind) {
        if (kind < 20) {
            if (x.calls() + Twin.MOST_CALLS_TO_ASK_ALL < Twin.MOST_CALLS) {
                x.askAll();
            }
            x.next();
        } else {
            anything();
        }
    }

    private int edge() {
        return EDGES[random.nextInt(EDGES.length)];
    }

    private int number() {
        int kind = random.nextInt(20);
        if (kind == 0) {
            return random.nextInt();
        }
        if (kind == 1) {
            return edge();
        }
        return kind < 4 ? random.nextInt(40) - 20 : random.nextInt(cells);
    }

    private void addSome() {
        int operation = random.nextInt(3) == 0 ? Code.LOAD + random.nextInt(2) : random.nextInt(12);
        int places = random.nextInt(16);
        if (operation == Code.STOP && random.nextInt(3) != 0) {
            operation = Code.REACH;
        }
        if (random.nextInt(30) == 0) {
            operation = random.nextInt(20) - 4;
            places = random.nextInt(24) - 4;
        }
        x.add(operation, places, operation == Code.NEED ? random.nextInt(6) - 4 : number());
    }

    private void work() {
        x.work(random.nextInt(), random.nextInt(60) - 3);
    }

    private void anything() {
        int t = random.nextInt(10) == 0 ? edge() : random.nextInt(11) - 1;
        int k = random.nextInt(10) == 0 ? edge() : random.nextInt(15) - 1;
        switch (random.nextInt(16)) {
            case 0 -> x.begin();
            case 1 -> addSome();
            case 2 -> x.undo();
            case 3 -> x.poke(k, number());
            case 4 -> x.work(edge(), edge());
            case 5 -> x.phase();
            case 6 -> x.cell(k);
            case 7 -> x.digest();
            case 8 -> x.transactions();
            case 9 -> x.result(t);
            case 10 -> x.outs(t);
            case 11 -> x.out(t, k);
            case 12 -> x.stored(t);
            case 13 -> x.faults();
            case 14 -> x.run(edge());
            default -> x.next();
        }
    }
}
