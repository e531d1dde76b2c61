/** Promises 6 to 8, 10, 11 and 13 to 17: running a block, and what shows of it before and after. */
public final class RunningTest {
    private static final int[] WORKERS = {1, 2, 3, 5, 8, 0, -7, 1000};
    private static final int[] SCHEDULES = {0, 1, -1, 7, 012345670, 0x12345678, 0x6DB6DB6D,
        Integer.MIN_VALUE, Integer.MAX_VALUE};

    public static void main(String[] args) {
        promise6Run();
        promise6EmptyBlock();
        promise7Work();
        promise7WorkNeverFinishes();
        promise8Phase();
        promises10And11NothingShowsWhileItRuns();
        promise10WrongCells();
        promise11Digest();
        promises13To16Answers();
        promises13To16BeforeTheEnd();
        promise15TwelveOuts();
        promise17Faults();
        chains();
        failuresInAChain();
        Checks.end();
    }

    private static void addAmount(BlockExecutor x, int cell, int amount) {
        Checks.transaction(x, Checks.LOAD, 0, 0, cell, Checks.SET, 1, 0, amount,
                Checks.ADD, 0, 1, 0, Checks.STORE, 0, 0, cell, Checks.PUT, 0, 0, 0);
    }

    private static void promise6Run() {
        BlockExecutor x = new BlockExecutor(4);
        addAmount(x, 0, 5);
        Checks.transaction(x, Checks.LOAD, 0, 0, 0, Checks.NEED, 0, 0, 6, Checks.STORE, 0, 0, 1);
        addAmount(x, 0, 1);
        Checks.transaction(x, Checks.LOAD, 0, 0, 0, Checks.NEED, 0, 0, 6, Checks.STORE, 0, 0, 2);
        Checks.due("promise 6: run, how many are done", x.run(-3), 3);
        Checks.dueCells("promise 6", x, 6, 0, 6);
        Checks.due("promise 6: run again", x.run(-3), Checks.FINISHED);
        Checks.dueCells("promise 6: run again", x, 6, 0, 6);
    }

    private static void promise6EmptyBlock() {
        BlockExecutor x = new BlockExecutor(4);
        x.poke(5, 5);
        Checks.due("promise 6: run of an empty block", x.run(0), 0);
        Checks.due("promise 6: phase()", x.phase(), 2);
        Checks.due("promise 6: result(0)", x.result(0), Checks.BAD);
        Checks.due("promise 6: begin()", x.begin(), Checks.FINISHED);
        Checks.dueCells("promise 6: an empty block", x, 0, 0, 0, 0, 0, 5);
        x.next();
        x.begin();
        x.begin();
        Checks.due("promise 6: empty transactions are done", x.run(0), 2);
        Checks.due("promise 6: result(1)", x.result(1), 1);
        Checks.due("promise 6: outs(1)", x.outs(1), 0);
        Checks.due("promise 6: stored(1)", x.stored(1), 0);
    }

    private static void promise7Work() {
        int[] steps = {0, 1, -1, 5, 1000, Integer.MAX_VALUE, Integer.MIN_VALUE};
        for (int n : steps) {
            BlockExecutor x = new BlockExecutor(3);
            addAmount(x, 4, 7);
            addAmount(x, 4, 8);
            Checks.due("promise 7: work(5, " + n + ")", x.work(5, n), 0);
            Checks.due("promise 7: phase()", x.phase(), 1);
            Checks.due("promise 7: begin()", x.begin(), Checks.RUNNING);
            Checks.due("promise 7: add", x.add(0, 0, 0), Checks.RUNNING);
            Checks.due("promise 7: undo()", x.undo(), Checks.RUNNING);
            Checks.due("promise 7: poke", x.poke(0, 1), Checks.RUNNING);
            Checks.due("promise 7: work again", x.work(-5, n), 0);
            Checks.dueCells("promise 7: nothing shows", x);
            Checks.due("promise 7: run(9)", x.run(9), 2);
            Checks.dueCells("promise 7: run", x, 0, 0, 0, 0, 15);
            Checks.due("promise 7: work when finished", x.work(0, n), Checks.FINISHED);
        }
    }

    private static void promise7WorkNeverFinishes() {
        BlockExecutor x = new BlockExecutor(8);
        for (int t = 0; t < 8; t++) {
            addAmount(x, 2, 1);
        }
        for (int i = 0; i < 300; i++) {
            Checks.due("promise 7: work, many times", x.work(i * 7919, i), 0);
        }
        Checks.due("promise 7: phase()", x.phase(), 1);
        Checks.due("promise 7: cell(2)", x.cell(2), 0);
        Checks.due("promise 7: result(0)", x.result(0), Checks.NONE);
        Checks.due("promise 7: run(0)", x.run(0), 8);
        Checks.due("promise 7: cell(2)", x.cell(2), 8);
    }

    private static void promise8Phase() {
        BlockExecutor x = new BlockExecutor(2);
        Checks.due("promise 8: new", x.phase(), 0);
        x.begin();
        x.add(0, 0, 0);
        Checks.due("promise 8: built", x.phase(), 0);
        x.work(0, 0);
        Checks.due("promise 8: begun", x.phase(), 1);
        x.run(0);
        Checks.due("promise 8: finished", x.phase(), 2);
        x.poke(0, 1);
        Checks.due("promise 8: finished, poked", x.phase(), 2);
        x.next();
        Checks.due("promise 8: next", x.phase(), 0);
        x.run(0);
        Checks.due("promise 8: run without work", x.phase(), 2);
    }

    private static void promises10And11NothingShowsWhileItRuns() {
        for (int steps = 0; steps < 80; steps++) {
            BlockExecutor x = new BlockExecutor(steps % 9);
            x.poke(0, 3);
            x.poke(15, -4);
            addAmount(x, 0, 10);
            addAmount(x, 15, 20);
            addAmount(x, 0, 30);
            x.work(0x2C5F31 * steps, steps);
            Checks.dueCells("promise 10: while it runs", x, 3, 0, 0, 0, 0, 0, 0, 0, 0, 0, 0, 0, 0,
                    0, 0, -4);
            Checks.due("promise 15: out(0, 0) while it runs", x.out(0, 0), 0);
            x.run(steps);
            Checks.dueCells("promise 10: when finished", x, 43, 0, 0, 0, 0, 0, 0, 0, 0, 0, 0, 0, 0,
                    0, 0, 16);
        }
    }

    private static void promise10WrongCells() {
        BlockExecutor x = new BlockExecutor(2);
        for (int i = 0; i < 16; i++) {
            x.poke(i, 50 + i);
        }
        int[] wrong = {-1, 16, 17, 31, Integer.MAX_VALUE, Integer.MIN_VALUE};
        for (int phase = 0; phase < 3; phase++) {
            Checks.due("promise 10: phase()", x.phase(), phase);
            for (int c : wrong) {
                Checks.due("promise 10: cell(" + c + ")", x.cell(c), 0);
            }
            Checks.due("promise 10: cell(0)", x.cell(0), 50);
            Checks.due("promise 10: cell(15)", x.cell(15), 65);
            if (phase == 0) {
                x.work(1, 1);
            } else {
                x.run(1);
            }
        }
    }

    private static void promise11Digest() {
        BlockExecutor x = new BlockExecutor(2);
        Checks.due("promise 11: digest() of zeros", x.digest(), 0);
        x.poke(0, 1);
        Checks.due("promise 11: cell 0 counts once", x.digest(), 1);
        x.poke(15, 1);
        Checks.due("promise 11: cell 15 counts sixteen times", x.digest(), 17);
        x.poke(2, Integer.MAX_VALUE);
        Checks.due("promise 11: wrapping", x.digest(), 17 + 3 * Integer.MAX_VALUE);
    }

    private static void promises13To16Answers() {
        BlockExecutor x = new BlockExecutor(3);
        Checks.transaction(x, Checks.SET, 0, 0, 4, Checks.PUT, 0, 0, 0, Checks.SET, 0, 0, -4,
                Checks.PUT, 0, 0, 0, Checks.STORE, 0, 0, 0, Checks.STORE, 0, 0, 15);
        Checks.transaction(x, Checks.PUT, 0, 0, 0, Checks.STORE, 0, 0, 3, Checks.NEED, 0, 0, 1);
        Checks.transaction(x, Checks.LOAD, 2, 0, 15, Checks.PUT, 2, 0, 0);
        Checks.due("promise 6: run", x.run(77), 2);
        int[][] due = {{1, 2, 0x8001}, {0, 0, 0}, {1, 1, 0}};
        for (int t = 0; t < 3; t++) {
            Checks.due("promise 13: result(" + t + ")", x.result(t), due[t][0]);
            Checks.due("promise 14: outs(" + t + ")", x.outs(t), due[t][1]);
            Checks.due("promise 16: stored(" + t + ")", x.stored(t), due[t][2]);
        }
        int[] wrong = {-1, 3, 7, 8, 9, Integer.MAX_VALUE, Integer.MIN_VALUE};
        for (int t : wrong) {
            Checks.due("promise 13: result(" + t + ")", x.result(t), Checks.BAD);
            Checks.due("promise 14: outs(" + t + ")", x.outs(t), Checks.BAD);
            Checks.due("promise 15: out(" + t + ", 0)", x.out(t, 0), 0);
            Checks.due("promise 16: stored(" + t + ")", x.stored(t), Checks.BAD);
        }
        Checks.due("promise 15: out(0, 0)", x.out(0, 0), 4);
        Checks.due("promise 15: out(0, 1)", x.out(0, 1), -4);
        Checks.due("promise 15: out(0, 2)", x.out(0, 2), 0);
        Checks.due("promise 15: out(0, -1)", x.out(0, -1), 0);
        Checks.due("promise 15: out(2, -12)", x.out(2, -12), 0);
        Checks.due("promise 15: out(0, 24)", x.out(0, 24), 0);
        Checks.due("promise 15: out(0, greatest)", x.out(0, Integer.MAX_VALUE), 0);
        Checks.due("promise 15: out(0, least)", x.out(0, Integer.MIN_VALUE), 0);
        Checks.due("promise 15: out(1, 0)", x.out(1, 0), 0);
        Checks.due("promise 15: out(2, 0)", x.out(2, 0), -4);
    }

    private static void promises13To16BeforeTheEnd() {
        BlockExecutor x = new BlockExecutor(3);
        x.begin();
        x.add(Checks.SET, 0, 4);
        x.add(Checks.PUT, 0, 0);
        for (int phase = 0; phase < 2; phase++) {
            Checks.due("phase()", x.phase(), phase);
            Checks.due("promise 13: result(0)", x.result(0), Checks.NONE);
            Checks.due("promise 14: outs(0)", x.outs(0), Checks.NONE);
            Checks.due("promise 15: out(0, 0)", x.out(0, 0), 0);
            Checks.due("promise 16: stored(0)", x.stored(0), Checks.NONE);
            Checks.due("promise 13: BAD before NONE", x.result(1), Checks.BAD);
            Checks.due("promise 14: BAD before NONE", x.outs(-1), Checks.BAD);
            Checks.due("promise 15: out(8, 0)", x.out(8, 0), 0);
            Checks.due("promise 16: BAD before NONE", x.stored(8), Checks.BAD);
            x.work(0, 100);
        }
    }

    private static void promise15TwelveOuts() {
        BlockExecutor x = new BlockExecutor(8);
        for (int t = 0; t < 8; t++) {
            x.begin();
            for (int i = 0; i < 12; i++) {
                x.add(Checks.PUT, 0, 0);
            }
        }
        Checks.due("promise 6: run", x.run(0x1F2E3D4C), 8);
        for (int t = 0; t < 8; t++) {
            Checks.due("promise 14: twelve outs", x.outs(t), 12);
            Checks.due("promise 15: the twelfth", x.out(t, 11), 0);
        }
    }

    private static void promise17Faults() {
        BlockExecutor x = new BlockExecutor(8);
        for (int t = 0; t < 8; t++) {
            addAmount(x, t & 1, 1);
            Checks.due("promise 17: built", x.faults(), 0);
        }
        for (int i = 0; i < 150; i++) {
            x.work(i * 0x3F1D5, 1);
            Checks.due("promise 17: while it runs", x.faults(), 0);
        }
        x.run(3);
        Checks.due("promise 17: finished", x.faults(), 0);
        x.poke(0, 1000);
        x.poke(1, 1000);
        Checks.due("promise 17: poked", x.faults(), 0);
        x.next();
        Checks.due("promise 17: next", x.faults(), 0);
        x.begin();
        Checks.due("promise 17: built again", x.faults(), 0);
    }

    /** Every transaction needs what the one before has stored: whatever is done too early must be mended. */
    private static void chains() {
        for (int workers : WORKERS) {
            for (int schedule : SCHEDULES) {
                for (int steps = 0; steps < 40; steps += 3) {
                    chain(workers, schedule, steps);
                }
            }
        }
    }

    private static void chain(int workers, int schedule, int steps) {
        BlockExecutor x = new BlockExecutor(workers);
        x.poke(0, 1);
        for (int t = 0; t < 8; t++) {
            Checks.transaction(x, Checks.LOAD, 0, 0, t, Checks.ADD, 0, 0, 0,
                    Checks.STORE, 0, 0, t + 1, Checks.PUT, 0, 0, 0);
        }
        x.work(schedule, steps);
        String p = "workers " + workers + ", schedule " + schedule + ", steps " + steps + ": ";
        Checks.due(p + "run", x.run(schedule), 8);
        Checks.dueCells(p, x, 1, 2, 4, 8, 16, 32, 64, 128, 256);
        for (int t = 0; t < 8; t++) {
            Checks.due(p + "out(" + t + ", 0)", x.out(t, 0), 2 << t);
            Checks.due(p + "stored(" + t + ")", x.stored(t), 2 << t);
        }
        Checks.due(p + "faults()", x.faults(), 0);
    }

    /** One takes from a cell until it is empty: the others fail, or not, by what those before left. */
    private static void failuresInAChain() {
        for (int workers : WORKERS) {
            for (int schedule : SCHEDULES) {
                BlockExecutor x = new BlockExecutor(workers);
                x.poke(7, 10);
                for (int t = 0; t < 8; t++) {
                    Checks.transaction(x, Checks.LOAD, 0, 0, 7, Checks.SET, 1, 0, 3,
                            Checks.SUB, 0, 1, 0, Checks.STORE, 0, 0, 7, Checks.STORE, 0, 0, 8 + t,
                            Checks.PUT, 0, 0, 0, Checks.NEED, 0, 0, 0);
                }
                x.work(schedule, schedule & 31);
                String p = "workers " + workers + ", schedule " + schedule + ": ";
                Checks.due(p + "run", x.run(~schedule), 3);
                Checks.dueCells(p, x, 0, 0, 0, 0, 0, 0, 0, 1, 7, 4, 1);
                for (int t = 0; t < 8; t++) {
                    Checks.due(p + "result(" + t + ")", x.result(t), t < 3 ? 1 : 0);
                    Checks.due(p + "outs(" + t + ")", x.outs(t), t < 3 ? 1 : 0);
                    Checks.due(p + "out(" + t + ", 0)", x.out(t, 0), t < 3 ? 7 - 3 * t : 0);
                    Checks.due(p + "stored(" + t + ")", x.stored(t), t < 3 ? 128 | 256 << t : 0);
                }
            }
        }
    }
}
