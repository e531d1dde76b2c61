import java.util.function.Consumer;
import java.util.function.ToIntFunction;

/** What it is, and Terms: the sentences that hold for every promise. */
final class TermsSentences {
    private static final int MAX = Checks.MAX;
    private static final int MIN = Checks.MIN;

    private TermsSentences() {
    }

    static void tell(Sentences s) {
        s.part("What it is");
        s.test("Carries out a block of small programs at the same time, so that it comes out as if they"
                + " had been carried out one after the other.", TermsSentences::chains);
        s.test("An object is used for at most 512 calls after it has been made",
                TermsSentences::calls512);
        s.test("what later calls answer is free.", TermsSentences::laterCallsEnd);
        s.part("Terms");
        s.test("THE STORE has sixteen CELLS 0 .. 15, each an int", TermsSentences::sixteenCells);
        s.test("all are 0 at first.", TermsSentences::cellsAtFirst);
        s.test("A BLOCK has at most eight TRANSACTIONS", TermsSentences::eightTransactions);
        s.test("numbered 0, 1, .. in their order", TermsSentences::transactionNumbers);
        s.test("each has a list of at most twelve INSTRUCTIONS", TermsSentences::twelve);
        s.test("INSTRUCTIONS at positions 0, 1, ..", TermsSentences::positions);
        s.test("A transaction works with four REGISTERS 0 .. 3", TermsSentences::fourRegisters);
        s.test("(ints, all 0 when it begins)", TermsSentences::registersAtFirst);
        s.test("and with a view of the store.", TermsSentences::view);
        s.test("An instruction has an operation, and three numbers a, b (0 .. 3 each) and n (an int)",
                TermsSentences::allPlaces);
        s.test("CARRYING OUT a block is to carry out its transactions one after the other, 0 first, each"
                + " wholly", TermsSentences::zeroFirst);
        s.test("each on the store as the ones before have left it.", TermsSentences::eachPair);
        s.test("The block is being BUILT at first.", TermsSentences::builtAtFirst);
        s.test("Running the block (in steps, by several workers at the same time) carries it out",
                TermsSentences::cutAnywhere);
        s.test("when it is FINISHED, the store, the states of the transactions and what they put out are"
                + " what carrying out gives.", TermsSentences::whenFinished);
        s.test("Before that, nothing of it shows.", TermsSentences::nothingShows);
        s.test("A finished block can't be changed", TermsSentences::finishedStays);
        s.test("a new one can be begun, on the store as it is then.", TermsSentences::newBlock);
        s.test("In every method the tests are made in the order named", TermsSentences::orderOfTests);
        s.test("a cell is good if it is 0 .. 15.", TermsSentences::goodCells);
        s.test("A refused call (an answer below 0) changes nothing.", TermsSentences::refusedCalls);
        s.test("Questions change nothing.", TermsSentences::questions);
    }

    /** Every transaction needs what the one before has stored: what is done too early must be mended. */
    private static void chains() {
        for (int workers : Stories.WORKERS) {
            for (int schedule : Stories.SCHEDULES) {
                chain(workers, schedule, schedule & 63);
                chainOfFailures(workers, schedule);
            }
        }
    }

    private static void chain(int workers, int schedule, int steps) {
        BlockExecutor x = new BlockExecutor(workers);
        x.poke(0, 1);
        for (int t = 0; t < 8; t++) {
            Checks.transaction(x, "LOAD 0 " + t, "ADD 0 0", "STORE 0 " + (t + 1), "PUT 0");
        }
        x.work(schedule, steps);
        String p = "workers " + workers + ", schedule " + schedule;
        Checks.due(p + ": run", x.run(schedule), 8);
        Checks.dueCells(p, x, 1, 2, 4, 8, 16, 32, 64, 128, 256);
        for (int t = 0; t < 8; t++) {
            Checks.dueOuts(p, x, t, 2 << t);
            Checks.due(p + ": stored(" + t + ")", x.stored(t), 2 << t);
        }
    }

    /** Each takes from a cell until it is empty: the later ones fail by what the earlier ones left. */
    private static void chainOfFailures(int workers, int schedule) {
        BlockExecutor x = new BlockExecutor(workers);
        x.poke(7, 10);
        for (int t = 0; t < 8; t++) {
            Checks.transaction(x, "LOAD 0 7", "SET 1 3", "SUB 0 1", "STORE 0 7",
                    "STORE 0 " + (8 + t), "PUT 0", "NEED 0 0");
        }
        x.work(schedule, schedule & 31);
        String p = "workers " + workers + ", schedule " + schedule;
        Checks.due(p + ": run", x.run(~schedule), 3);
        Checks.dueCells(p, x, 0, 0, 0, 0, 0, 0, 0, 1, 7, 4, 1);
        for (int t = 0; t < 8; t++) {
            if (t < 3) {
                Checks.dueOuts(p, x, t, 7 - 3 * t);
                Checks.due(p + ": stored(" + t + ")", x.stored(t), 128 | 256 << t);
            } else {
                Checks.dueFailed(p, x, t);
            }
        }
    }

    private static void calls512() {
        manyBlocks();
        manyBlocksThatDoNotEnd();
        manySteps();
        manyUndone();
    }

    private static void manyBlocks() {
        Twin x = new Twin(4);
        x.poke(1, 1);
        while (x.calls() + 7 <= Twin.MOST_CALLS - 7) {
            x.transaction("LOAD 0 0", "LOAD 1 1", "ADD 0 1", "STORE 0 0");
            x.run(x.calls());
            x.next();
        }
        Checks.due("seventy-two blocks: cell(0)", x.cell(0), 72);
        while (x.calls() < Twin.MOST_CALLS) {
            x.digest();
        }
    }

    private static void manyBlocksThatDoNotEnd() {
        Twin x = new Twin(2);
        while (x.calls() + 3 <= Twin.MOST_CALLS - 4) {
            x.transaction("PUT 0");
            x.next();
        }
        x.transaction("SET 0 7", "PUT 0");
        Checks.due("after many blocks that were given up: run(0)", x.run(0), 1);
    }

    private static void manySteps() {
        Twin x = new Twin(8);
        Stories.fullBuilt(x);
        while (x.calls() < Twin.MOST_CALLS - Twin.MOST_CALLS_TO_ASK_ALL - 1) {
            x.work(x.calls() * 0x9E3779B9, x.calls() % 5);
        }
        x.run(1);
        x.askAll();
        while (x.calls() < Twin.MOST_CALLS) {
            x.run(2);
        }
    }

    private static void manyUndone() {
        Twin x = new Twin(3);
        x.begin();
        while (x.calls() < Twin.MOST_CALLS - 8) {
            x.add(Code.PUT, 0, 0);
            x.undo();
        }
        x.add(Code.SET, 0, 5);
        x.add(Code.PUT, 0, 0);
        x.run(0);
        x.outs(0);
        Checks.due("after many instructions that were undone: out(0, 0)", x.out(0, 0), 5);
    }

    /** Free is what they answer; but rule 7 of LANGUAGE.md says that no call throws or fails to end. */
    private static void laterCallsEnd() {
        BlockExecutor x = new BlockExecutor(3);
        for (int i = 0; i < 3000; i++) {
            x.begin();
            x.add(i % 12, i % 16, i * 0x9E3779B9);
            x.poke(i % 16, i);
            x.work(i, i % 9);
            if (i % 20 == 19) {
                x.run(i);
                x.faults();
                x.next();
            }
        }
    }

    private static void sixteenCells() {
        BlockExecutor x = new BlockExecutor(2);
        int[] extremes = {MIN, MAX, -1, 0, 1 << 16, -(1 << 16)};
        for (int value : extremes) {
            for (int i = 0; i < 16; i++) {
                x.poke(i, value);
                Checks.due("cell(" + i + ")", x.cell(i), value);
            }
        }
        BlockExecutor y = new BlockExecutor(2);
        for (int i = 0; i < 16; i++) {
            y.poke(i, 1000 + i * i);
        }
        for (int i = 0; i < 16; i++) {
            Checks.due("each is its own: cell(" + i + ")", y.cell(i), 1000 + i * i);
        }
    }

    private static void cellsAtFirst() {
        BlockExecutor used = new BlockExecutor(2);
        for (int i = 0; i < 16; i++) {
            used.poke(i, 9);
        }
        BlockExecutor x = new BlockExecutor(2);
        Checks.dueCells("a new object", x);
        Checks.transaction(x, "LOAD 0 0", "PUT 0", "LOAD 0 15", "PUT 0");
        x.run(0);
        Checks.dueOuts("seen by a transaction", x, 0, 0, 0);
    }

    private static void eightTransactions() {
        BlockExecutor x = new BlockExecutor(2);
        for (int t = 0; t < 8; t++) {
            Checks.transaction(x, "SET 0 " + (t + 1), "STORE 0 " + t, "PUT 0");
        }
        Checks.due("a ninth", x.begin(), Checks.FULL);
        Checks.due("all eight are carried out", x.run(6), 8);
        Checks.dueCells("all eight", x, 1, 2, 3, 4, 5, 6, 7, 8);
        for (int t = 0; t < 8; t++) {
            Checks.dueOuts("all eight", x, t, t + 1);
        }
        x.next();
        for (int t = 0; t < 8; t++) {
            Checks.due("in the next block: begin()", x.begin(), t);
        }
        Checks.due("a ninth in the next block", x.begin(), Checks.FULL);
    }

    private static void transactionNumbers() {
        BlockExecutor x = new BlockExecutor(2);
        for (int t = 0; t < 8; t++) {
            Checks.due("begin()", x.begin(), t);
            Checks.add(x, "SET 1 " + (50 + t));
            Checks.add(x, "PUT 1");
        }
        x.run(-9);
        for (int t = 0; t < 8; t++) {
            Checks.dueOuts("by its number", x, t, 50 + t);
        }
    }

    private static void twelve() {
        BlockExecutor x = new BlockExecutor(8);
        for (int t = 0; t < 8; t++) {
            Checks.transaction(x, "SET 1 1", "ADD 0 1", "ADD 0 1", "ADD 0 1", "ADD 0 1", "ADD 0 1",
                    "ADD 0 1", "ADD 0 1", "ADD 0 1", "ADD 0 1", "ADD 0 1", "PUT 0");
            Checks.due("a thirteenth", Checks.add(x, "NEED 0 99"), Checks.FULL);
            Checks.due("a fourteenth", Checks.add(x, "PUT 0"), Checks.FULL);
        }
        Checks.due("run(4)", x.run(4), 8);
        for (int t = 0; t < 8; t++) {
            Checks.dueOuts("all twelve are carried out", x, t, 10);
        }
    }

    private static void positions() {
        BlockExecutor x = new BlockExecutor(8);
        for (int t = 0; t < 8; t++) {
            x.begin();
            for (int i = 0; i < 12; i++) {
                Checks.due("transaction " + t + ": add", Checks.add(x, "PUT 0"), i);
            }
        }
    }

    private static void fourRegisters() {
        BlockExecutor x = new BlockExecutor(2);
        Checks.transaction(x, "SET 0 " + MIN, "SET 1 " + MAX, "SET 2 -3", "SET 3 4", "PUT 0", "PUT 1",
                "PUT 2", "PUT 3");
        x.run(0);
        Checks.dueOuts("each is its own", x, 0, MIN, MAX, -3, 4);
    }

    private static void registersAtFirst() {
        for (int workers : new int[] {1, 2, 8}) {
            BlockExecutor x = new BlockExecutor(workers);
            for (int block = 0; block < 2; block++) {
                for (int t = 0; t < 8; t++) {
                    Checks.transaction(x, "PUT 0", "PUT 1", "PUT 2", "PUT 3", "SET 0 1", "SET 1 2",
                            "SET 2 3", "SET 3 4");
                }
                x.run(block);
                for (int t = 0; t < 8; t++) {
                    Checks.dueOuts("workers " + workers + ", block " + block, x, t, 0, 0, 0, 0);
                }
                x.next();
            }
        }
    }

    private static void view() {
        BlockExecutor x = new BlockExecutor(3);
        x.poke(6, 106);
        Checks.transaction(x, "LOAD 0 6", "SET 1 9", "STORE 1 6", "LOAD 2 6", "SET 3 6", "PLACE 0 3",
                "REACH 3 3", "PUT 0", "PUT 2", "PUT 3");
        Checks.transaction(x, "SET 0 15", "PLACE 0 0", "LOAD 1 15", "PUT 1");
        x.run(0);
        Checks.dueOuts("it sees its own stores", x, 0, 106, 9, 106);
        Checks.due("stored, though the value is the old one", x.stored(0), 64);
        Checks.dueOuts("it sees its own PLACE", x, 1, 15);
    }

    private static void allPlaces() {
        for (int a = 0; a < 4; a++) {
            for (int b = 0; b < 4; b++) {
                BlockExecutor x = new BlockExecutor(1);
                Checks.transaction(x, "SET 0 1", "SET 1 10", "SET 2 100", "SET 3 1000");
                x.add(Code.SUB, 4 * a + b, 7);
                for (int r = 0; r < 4; r++) {
                    x.add(Code.PUT, 4 * r + b, 7);
                }
                x.run(0);
                int[] want = {1, 10, 100, 1000};
                want[a] -= want[b];
                Checks.dueOuts("a = " + a + ", b = " + b, x, 0, want);
            }
        }
    }

    private static void zeroFirst() {
        for (int schedule : Stories.SCHEDULES) {
            BlockExecutor x = new BlockExecutor(8);
            for (int t = 0; t < 8; t++) {
                Checks.transaction(x, "LOAD 0 5", "PUT 0", "SET 1 10", "MUL 0 1", "SET 1 " + (t + 1),
                        "ADD 0 1", "STORE 0 5", "LOAD 0 5", "PUT 0");
            }
            Checks.due("run(" + schedule + ")", x.run(schedule), 8);
            Checks.due("in their order: cell(5)", x.cell(5), 12345678);
            int left = 0;
            for (int t = 0; t < 8; t++) {
                Checks.dueOuts("schedule " + schedule, x, t, left, 10 * left + t + 1);
                left = 10 * left + t + 1;
            }
        }
    }

    /** One stores into a cell, a later one looks at it: each pair, each cell, in several orders. */
    private static void eachPair() {
        for (int cell = 0; cell < 16; cell++) {
            for (int first = 0; first < 8; first++) {
                for (int second = first + 1; second < 8; second++) {
                    for (int kind = 0; kind < 6; kind++) {
                        pair(cell, first, second, kind);
                    }
                }
            }
        }
    }

    private static void pair(int cell, int first, int second, int kind) {
        Twin x = new Twin(1 + (first * 5 + second + kind) % 8);
        x.poke(cell, -1);
        for (int t = 0; t < 8; t++) {
            if (t == first) {
                x.transaction("SET 0 5", "SET 1 1", "SUB 0 1", "STORE 0 " + cell);
            } else if (t == second) {
                x.transaction("LOAD 0 " + cell, "SET 1 " + cell, "REACH 2 1", "PUT 0", "PUT 2",
                        "NEED 0 4");
            } else {
                x.begin();
            }
        }
        x.work(0x2545F491 * (kind + 7 * second), 6 * kind + first);
        x.run(0x9E3779B9 * (kind + 1));
        x.cell(cell);
        x.stored(first);
        x.result(second);
        x.outs(second);
        x.out(second, 0);
        x.out(second, 1);
    }

    private static void builtAtFirst() {
        BlockExecutor x = new BlockExecutor(2);
        Checks.due("phase()", x.phase(), 0);
        Checks.due("begin()", x.begin(), 0);
        Checks.due("add", x.add(0, 0, 0), 0);
        Checks.due("poke", x.poke(0, 0), 0);
        Checks.due("undo()", x.undo(), 0);
    }

    /** The steps are cut at every place, and others go on with another schedule. */
    private static void cutAnywhere() {
        for (int workers = 1; workers <= 9; workers++) {
            for (int steps = 0; steps < 130; steps++) {
                Twin x = new Twin(workers);
                Stories.someBuilt(x);
                x.work(0x1F2E3D4C * (workers + steps), steps / 2);
                x.work(steps * 0x9E3779B9, steps - steps / 2);
                x.run(steps + 7 * workers);
                x.askAll();
            }
        }
    }

    private static void whenFinished() {
        for (int schedule : Stories.SCHEDULES) {
            BlockExecutor x = new BlockExecutor(3);
            x.poke(2, 6);
            Checks.transaction(x, "LOAD 0 2", "ADD 0 0", "STORE 0 3", "PUT 0");
            Checks.transaction(x, "LOAD 1 3", "STORE 1 2", "PUT 1", "NEED 1 13");
            Checks.transaction(x, "LOAD 1 3", "STORE 1 4", "NEED 1 12", "LOAD 2 2", "PUT 2", "PUT 1");
            Checks.due("run(" + schedule + ")", x.run(schedule), 2);
            Checks.dueCells("the store", x, 0, 0, 6, 12, 12);
            Checks.dueOuts("done", x, 0, 12);
            Checks.dueFailed("failed", x, 1);
            Checks.dueOuts("done", x, 2, 6, 12);
            Checks.due("phase()", x.phase(), 2);
        }
    }

    private static void nothingShows() {
        for (int steps = 0; steps < 150; steps++) {
            Twin x = new Twin(steps % 9);
            Stories.someBuilt(x);
            x.work(0x2C5F31 * steps, steps);
            x.askAll();
            x.work(0x2C5F31 * steps, 1);
            x.askAll();
        }
    }

    private static void finishedStays() {
        Twin x = new Twin(3);
        Stories.someBuilt(x);
        x.run(0);
        Checks.due("begin()", x.begin(), Checks.FINISHED);
        Checks.due("add", x.add(Code.PUT, 0, 0), Checks.FINISHED);
        Checks.due("undo()", x.undo(), Checks.FINISHED);
        Checks.due("run(1)", x.run(1), Checks.FINISHED);
        Checks.due("work(1, 1)", x.work(1, 1), Checks.FINISHED);
        x.askAll();
        x.poke(3, 1);
        x.poke(15, 2);
        x.askAll();
    }

    private static void newBlock() {
        BlockExecutor x = new BlockExecutor(3);
        x.poke(4, 1);
        Checks.transaction(x, "LOAD 0 4", "ADD 0 0", "STORE 0 4", "STORE 0 5");
        x.run(0);
        x.poke(5, 40);
        Checks.due("next()", x.next(), 0);
        x.poke(6, 50);
        Checks.transaction(x, "LOAD 0 4", "LOAD 1 5", "LOAD 2 6", "PUT 0", "PUT 1", "PUT 2", "ADD 0 1",
                "STORE 0 4");
        Checks.due("run(0)", x.run(0), 1);
        Checks.dueOuts("what the block before and the pokes have left", x, 0, 2, 40, 50);
        Checks.dueCells("after it", x, 0, 0, 0, 0, 42, 40, 50);
    }

    private static void orderOfTests() {
        orderWhileBuilt();
        orderWithAnEmptyBlock();
        orderWithAFullBlock();
    }

    private static void orderWhileBuilt() {
        BlockExecutor x = new BlockExecutor(2);
        Checks.due("add: BAD before NONE", x.add(12, 0, 0), Checks.BAD);
        Checks.due("add: BAD before NONE", x.add(0, 16, 0), Checks.BAD);
        Checks.due("result: BAD before NONE", x.result(0), Checks.BAD);
        Checks.due("outs: BAD before NONE", x.outs(0), Checks.BAD);
        Checks.due("stored: BAD before NONE", x.stored(0), Checks.BAD);
        for (int t = 0; t < 8; t++) {
            x.begin();
        }
        for (int i = 0; i < 12; i++) {
            x.add(0, 0, 0);
        }
        Checks.due("add: BAD before FULL", x.add(-1, 0, 0), Checks.BAD);
        Checks.due("add: BAD before FULL", x.add(0, -1, 0), Checks.BAD);
    }

    private static void orderWithAnEmptyBlock() {
        BlockExecutor x = new BlockExecutor(2);
        x.work(0, 0);
        Checks.due("add: RUNNING before NONE", x.add(0, 0, 0), Checks.RUNNING);
        Checks.due("add: RUNNING before BAD", x.add(12, 16, 0), Checks.RUNNING);
        Checks.due("undo: RUNNING before NONE", x.undo(), Checks.RUNNING);
        Checks.due("poke: RUNNING before BAD", x.poke(16, 0), Checks.RUNNING);
        Checks.due("result: BAD before NONE", x.result(0), Checks.BAD);
        x.run(0);
        Checks.due("add: FINISHED before NONE", x.add(0, 0, 0), Checks.FINISHED);
        Checks.due("add: FINISHED before BAD", x.add(12, 16, 0), Checks.FINISHED);
        Checks.due("undo: FINISHED before NONE", x.undo(), Checks.FINISHED);
    }

    private static void orderWithAFullBlock() {
        BlockExecutor x = new BlockExecutor(2);
        for (int t = 0; t < 8; t++) {
            x.begin();
        }
        for (int i = 0; i < 12; i++) {
            x.add(0, 0, 0);
        }
        x.work(0, 0);
        Checks.due("begin: RUNNING before FULL", x.begin(), Checks.RUNNING);
        Checks.due("add: RUNNING before BAD", x.add(-1, -1, 0), Checks.RUNNING);
        Checks.due("add: RUNNING before FULL", x.add(0, 0, 0), Checks.RUNNING);
        Checks.due("result: BAD before NONE", x.result(8), Checks.BAD);
        Checks.due("outs: BAD before NONE", x.outs(-1), Checks.BAD);
        Checks.due("stored: BAD before NONE", x.stored(8), Checks.BAD);
        x.run(0);
        Checks.due("begin: FINISHED before FULL", x.begin(), Checks.FINISHED);
        Checks.due("add: FINISHED before BAD", x.add(-1, -1, 0), Checks.FINISHED);
        Checks.due("add: FINISHED before FULL", x.add(0, 0, 0), Checks.FINISHED);
    }

    private static void goodCells() {
        BlockExecutor x = new BlockExecutor(2);
        for (int c = -40; c < 60; c++) {
            boolean good = c >= 0 && c <= 15;
            Checks.due("poke(" + c + ", 7)", x.poke(c, 7), good ? 0 : Checks.BAD);
            Checks.due("cell(" + c + ")", x.cell(c), good ? 7 : 0);
        }
    }

    private static void refusedCalls() {
        int refused = 0;
        for (Consumer<Twin> state : Stories.STATES) {
            for (ToIntFunction<Twin> call : Stories.CHANGES) {
                Twin x = new Twin(1 + refused % 9);
                state.accept(x);
                if (call.applyAsInt(x) < 0) {
                    refused++;
                    for (int i = 0; i < 20; i++) {
                        call.applyAsInt(x);
                    }
                    x.askAll();
                    Stories.goOn(x);
                }
            }
        }
        Checks.dueTrue("many calls were refused", refused > 100);
    }

    private static void questions() {
        int[] numbers = {MIN, -1, 0, 1, 7, 8, 15, 16, MAX};
        for (Consumer<Twin> state : Stories.STATES) {
            Twin x = new Twin(3);
            state.accept(x);
            x.phase();
            x.transactions();
            x.digest();
            x.faults();
            for (int i : numbers) {
                x.cell(i);
                x.result(i);
                x.outs(i);
                x.stored(i);
                x.out(i, 0);
                x.out(0, i);
            }
            x.askAll();
            Stories.goOn(x);
        }
    }
}
