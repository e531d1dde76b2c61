import java.util.function.Consumer;

/** Promises 10 to 17: the sentences on the questions. */
final class AnswerSentences {
    private static final int MAX = Checks.MAX;
    private static final int MIN = Checks.MIN;
    private static final int[] WRONG = {MIN, MIN + 1, -12, -9, -8, -2, -1};

    private AnswerSentences() {
    }

    static void tell(Sentences s) {
        s.part("Promise 10");
        s.test("A cell of the store: as it is while a block is built or finished",
                AnswerSentences::cellAsItIs);
        s.test("while it runs, as it was before.", AnswerSentences::cellWhileItRuns);
        s.test("cell is not good: 0.", AnswerSentences::cellNotGood);

        s.part("Promise 11");
        s.test("The sum of (i + 1) times cell i", AnswerSentences::digestSum);
        s.test("(wrapping)", AnswerSentences::digestWraps);
        s.test("likewise.", AnswerSentences::digestLikewise);

        s.part("Promise 12");
        s.test("How many transactions the block has.", AnswerSentences::transactions);

        s.part("Promise 13");
        s.test("1 if a transaction of a finished block is done, 0 if it failed.",
                AnswerSentences::result);
        s.test("t is not the number of one: BAD", AnswerSentences::resultBad);
        s.test("the block is not finished: NONE.", AnswerSentences::resultNone);

        s.part("Promise 14");
        s.test("How many numbers a transaction of a finished block put out", AnswerSentences::outs);
        s.test("(0 if it failed)", AnswerSentences::outsFailed);
        s.test("t is not the number of one: BAD", AnswerSentences::outsBad);
        s.test("the block is not finished: NONE.", AnswerSentences::outsNone);

        s.part("Promise 15");
        s.test("Number k (0 the first) that a transaction of a finished block put out",
                AnswerSentences::out);
        s.test("0 if there is none", AnswerSentences::outNone);
        s.test("or the block is not finished.", AnswerSentences::outNotFinished);

        s.part("Promise 16");
        s.test("Which cells a transaction of a finished block that is done has stored into: bit i for"
                + " cell i", AnswerSentences::stored);
        s.test("(0 if it failed)", AnswerSentences::storedFailed);
        s.test("t is not the number of one: BAD", AnswerSentences::storedBad);
        s.test("the block is not finished: NONE.", AnswerSentences::storedNone);

        s.part("Promise 17");
        s.test("How many faults a check of the versions that are kept finds: always 0.",
                AnswerSentences::faults);
    }

    /** One that puts out two and stores two, one that fails, one that puts out one. */
    private static BlockExecutor withThree() {
        BlockExecutor x = new BlockExecutor(3);
        Checks.transaction(x, "SET 0 4", "PUT 0", "SET 0 -4", "PUT 0", "STORE 0 0", "STORE 0 15");
        Checks.transaction(x, "SET 0 9", "PUT 0", "PUT 0", "STORE 0 3", "NEED 0 10");
        Checks.transaction(x, "LOAD 2 15", "PUT 2");
        return x;
    }

    private static BlockExecutor threeFinished() {
        BlockExecutor x = withThree();
        Checks.due("run(77)", x.run(77), 2);
        return x;
    }

    private static void cellAsItIs() {
        BlockExecutor x = new BlockExecutor(2);
        x.poke(15, 5);
        Checks.due("built: cell(15)", x.cell(15), 5);
        Checks.transaction(x, "SET 0 6", "STORE 0 15", "STORE 0 0");
        Checks.due("built: cell(15)", x.cell(15), 5);
        x.run(0);
        Checks.due("finished: cell(15)", x.cell(15), 6);
        Checks.due("finished: cell(0)", x.cell(0), 6);
        x.poke(0, 7);
        Checks.due("finished and poked: cell(0)", x.cell(0), 7);
        x.next();
        Checks.due("the next block: cell(0)", x.cell(0), 7);
        Checks.due("the next block: cell(15)", x.cell(15), 6);
    }

    private static void whileItRuns(Consumer<BlockExecutor> question) {
        for (int steps = 0; steps < 80; steps++) {
            BlockExecutor x = new BlockExecutor(steps % 9);
            x.poke(0, 3);
            x.poke(15, -4);
            Checks.transaction(x, "LOAD 0 0", "SET 1 10", "ADD 0 1", "STORE 0 0", "STORE 0 7");
            Checks.transaction(x, "LOAD 0 15", "SET 1 20", "ADD 0 1", "STORE 0 15");
            Checks.transaction(x, "LOAD 0 0", "SET 1 30", "ADD 0 1", "STORE 0 0");
            x.work(0x2C5F31 * steps, steps);
            question.accept(x);
            x.work(0, MAX);
            question.accept(x);
            x.run(steps);
            Checks.dueCells("finished", x, 43, 0, 0, 0, 0, 0, 0, 13, 0, 0, 0, 0, 0, 0, 0, 16);
        }
    }

    private static void cellWhileItRuns() {
        whileItRuns(x -> Checks.dueCells("while it runs", x, 3, 0, 0, 0, 0, 0, 0, 0, 0, 0, 0, 0, 0, 0, 0,
                -4));
    }

    private static void cellNotGood() {
        BlockExecutor x = new BlockExecutor(2);
        for (int i = 0; i < 16; i++) {
            x.poke(i, 50 + i);
        }
        int[] wrong = {MIN, MIN + 1, -17, -16, -15, -2, -1, 16, 17, 31, 32, 256, MAX - 1, MAX};
        for (int phase = 0; phase < 3; phase++) {
            Checks.due("phase()", x.phase(), phase);
            for (int c : wrong) {
                Checks.due("phase " + phase + ": cell(" + c + ")", x.cell(c), 0);
            }
            Checks.due("phase " + phase + ": cell(0)", x.cell(0), 50);
            Checks.due("phase " + phase + ": cell(15)", x.cell(15), 65);
            if (phase == 0) {
                x.work(1, 1);
            } else {
                x.run(1);
            }
        }
    }

    private static void digestSum() {
        BlockExecutor x = new BlockExecutor(2);
        Checks.due("all are 0", x.digest(), 0);
        for (int i = 0; i < 16; i++) {
            x.poke(i, 1);
            Checks.due("cells 0 .. " + i + " are 1", x.digest(), (i + 1) * (i + 2) / 2);
        }
        for (int i = 0; i < 16; i++) {
            x.poke(i, -3);
        }
        Checks.due("all are -3", x.digest(), -408);
    }

    private static void digestWraps() {
        BlockExecutor x = new BlockExecutor(2);
        x.poke(0, MAX);
        Checks.due("cell 0 is the greatest", x.digest(), MAX);
        x.poke(1, 1);
        Checks.due("and cell 1 is 1", x.digest(), MIN + 1);
        x.poke(1, 0);
        x.poke(0, 0);
        x.poke(2, MAX);
        Checks.due("cell 2 is the greatest", x.digest(), MAX - 2);
        x.poke(2, 0);
        x.poke(15, MIN);
        Checks.due("cell 15 is the least", x.digest(), 0);
        x.poke(14, MIN);
        Checks.due("and cell 14 is the least", x.digest(), MIN);
        for (int i = 0; i < 16; i++) {
            x.poke(i, MAX);
        }
        Checks.due("all are the greatest", x.digest(), -136);
    }

    private static void digestLikewise() {
        whileItRuns(x -> Checks.due("while it runs", x.digest(), 3 - 64));
        BlockExecutor x = threeFinished();
        Checks.due("finished", x.digest(), -4 - 64);
        x.poke(1, 10);
        Checks.due("finished and poked", x.digest(), -4 - 64 + 20);
        x.next();
        Checks.due("the next block", x.digest(), -4 - 64 + 20);
    }

    private static void transactions() {
        BlockExecutor x = new BlockExecutor(4);
        for (int t = 0; t < 8; t++) {
            Checks.due("built", x.transactions(), t);
            x.begin();
        }
        Checks.due("eight", x.transactions(), 8);
        x.begin();
        Checks.due("after a ninth was refused", x.transactions(), 8);
        x.undo();
        Checks.due("after undo", x.transactions(), 7);
        x.work(3, 4);
        Checks.due("while it runs", x.transactions(), 7);
        x.run(3);
        Checks.due("finished", x.transactions(), 7);
        x.next();
        Checks.due("the next block", x.transactions(), 0);
        x.work(0, 0);
        Checks.due("an empty one runs", x.transactions(), 0);
        x.run(0);
        Checks.due("an empty one is finished", x.transactions(), 0);
    }

    private static void result() {
        BlockExecutor x = threeFinished();
        Checks.due("result(0)", x.result(0), 1);
        Checks.due("result(1)", x.result(1), 0);
        Checks.due("result(2)", x.result(2), 1);
        for (int failing = 0; failing < 8; failing++) {
            BlockExecutor y = new BlockExecutor(8);
            for (int t = 0; t < 8; t++) {
                Checks.transaction(y, "NEED 0 " + (t == failing ? 1 : 0));
            }
            y.run(failing);
            for (int t = 0; t < 8; t++) {
                Checks.due(failing + " fails: result(" + t + ")", y.result(t), t == failing ? 0 : 1);
            }
        }
        BlockExecutor z = new BlockExecutor(2);
        z.begin();
        z.run(0);
        Checks.due("without instructions: result(0)", z.result(0), 1);
    }

    private static void resultBad() {
        for (int count = 0; count <= 8; count++) {
            for (int phase = 0; phase < 3; phase++) {
                BlockExecutor x = withEmptyOnes(count, phase);
                String p = count + " transactions, phase " + phase + ": ";
                for (int t : WRONG) {
                    Checks.due(p + "result(" + t + ")", x.result(t), Checks.BAD);
                    Checks.due(p + "result(" + (count - 1 - t) + ")", x.result(count - 1 - t),
                            Checks.BAD);
                }
            }
        }
    }

    private static BlockExecutor withEmptyOnes(int count, int phase) {
        BlockExecutor x = new BlockExecutor(2);
        for (int t = 0; t < 8; t++) {
            Checks.transaction(x, "PUT 0", "STORE 0 1");
        }
        x.run(0);
        x.next();
        for (int t = 0; t < count; t++) {
            x.begin();
        }
        if (phase > 0) {
            x.work(0, 9);
        }
        if (phase > 1) {
            x.run(0);
        }
        return x;
    }

    private static void resultNone() {
        BlockExecutor x = withThree();
        for (int t = 0; t < 3; t++) {
            Checks.due("built: result(" + t + ")", x.result(t), Checks.NONE);
        }
        for (int steps = 0; steps < 60; steps++) {
            x.work(steps, steps);
            for (int t = 0; t < 3; t++) {
                Checks.due("begun: result(" + t + ")", x.result(t), Checks.NONE);
            }
        }
        x.run(0);
        x.next();
        x.begin();
        Checks.due("the next block: result(0)", x.result(0), Checks.NONE);
    }

    private static void outs() {
        BlockExecutor x = threeFinished();
        Checks.due("outs(0)", x.outs(0), 2);
        Checks.due("outs(2)", x.outs(2), 1);
        BlockExecutor y = new BlockExecutor(4);
        for (int t = 0; t < 8; t++) {
            y.begin();
            for (int i = 0; i < t + 5; i++) {
                Checks.add(y, "PUT 0");
            }
        }
        y.run(1);
        for (int t = 0; t < 8; t++) {
            Checks.due("five and more: outs(" + t + ")", y.outs(t), t + 5);
        }
        BlockExecutor z = new BlockExecutor(4);
        z.begin();
        Checks.transaction(z, "SET 0 1", "STORE 0 1");
        z.run(0);
        Checks.due("without instructions: outs(0)", z.outs(0), 0);
        Checks.due("without PUT: outs(1)", z.outs(1), 0);
    }

    private static void outsFailed() {
        BlockExecutor x = threeFinished();
        Checks.due("outs(1)", x.outs(1), 0);
        BlockExecutor y = new BlockExecutor(1);
        Checks.transaction(y, "PUT 0", "PUT 0", "PUT 0", "PUT 0", "PUT 0", "PUT 0", "PUT 0", "PUT 0",
                "PUT 0", "PUT 0", "PUT 0", "NEED 0 1");
        y.run(0);
        Checks.due("eleven were put out: outs(0)", y.outs(0), 0);
    }

    private static void outsBad() {
        for (int count = 0; count <= 8; count++) {
            for (int phase = 0; phase < 3; phase++) {
                BlockExecutor x = withEmptyOnes(count, phase);
                String p = count + " transactions, phase " + phase + ": ";
                for (int t : WRONG) {
                    Checks.due(p + "outs(" + t + ")", x.outs(t), Checks.BAD);
                    Checks.due(p + "outs(" + (count - 1 - t) + ")", x.outs(count - 1 - t), Checks.BAD);
                }
            }
        }
    }

    private static void outsNone() {
        BlockExecutor x = withThree();
        for (int t = 0; t < 3; t++) {
            Checks.due("built: outs(" + t + ")", x.outs(t), Checks.NONE);
        }
        for (int steps = 0; steps < 60; steps++) {
            x.work(steps, steps);
            for (int t = 0; t < 3; t++) {
                Checks.due("begun: outs(" + t + ")", x.outs(t), Checks.NONE);
            }
        }
        x.run(0);
        x.next();
        x.begin();
        Checks.due("the next block: outs(0)", x.outs(0), Checks.NONE);
    }

    private static void out() {
        BlockExecutor x = threeFinished();
        Checks.due("out(0, 0)", x.out(0, 0), 4);
        Checks.due("out(0, 1)", x.out(0, 1), -4);
        Checks.due("out(2, 0)", x.out(2, 0), -4);
        x.poke(15, 9);
        Checks.due("after poke: out(2, 0)", x.out(2, 0), -4);
        BlockExecutor y = new BlockExecutor(5);
        for (int t = 0; t < 8; t++) {
            Checks.transaction(y, "SET 0 " + (t + 1), "PUT 0", "ADD 0 0", "PUT 0", "ADD 0 0", "PUT 0",
                    "ADD 0 0", "PUT 0", "ADD 0 0", "PUT 0", "ADD 0 0", "PUT 0");
        }
        y.run(-1);
        for (int t = 0; t < 8; t++) {
            for (int k = 0; k < 6; k++) {
                Checks.due("out(" + t + ", " + k + ")", y.out(t, k), (t + 1) << k);
            }
        }
        outEleven();
    }

    private static void outEleven() {
        BlockExecutor x = new BlockExecutor(5);
        x.poke(0, 1);
        for (int t = 0; t < 8; t++) {
            Checks.transaction(x, "LOAD 0 0", "PUT 0", "PUT 0", "PUT 0", "PUT 0", "PUT 0", "PUT 0",
                    "PUT 0", "PUT 0", "PUT 0", "PUT 0", "PUT 0");
        }
        x.run(5);
        for (int t = 0; t < 8; t++) {
            for (int k = 0; k < 11; k++) {
                Checks.due("eleven: out(" + t + ", " + k + ")", x.out(t, k), 1);
            }
            Checks.due("eleven: out(" + t + ", 11)", x.out(t, 11), 0);
        }
    }

    private static void outNone() {
        BlockExecutor x = threeFinished();
        int[] wrong = {MIN, MIN + 1, -13, -12, -11, -2, -1, 2, 3, 11, 12, 13, 24, 25, MAX - 1, MAX};
        for (int k : wrong) {
            Checks.due("no such number: out(0, " + k + ")", x.out(0, k), 0);
            Checks.due("no such number: out(2, " + k + ")", x.out(2, k), 0);
        }
        Checks.due("it failed: out(1, 0)", x.out(1, 0), 0);
        Checks.due("it failed: out(1, 1)", x.out(1, 1), 0);
        int[] others = {MIN, MIN + 1, -2, -1, 3, 4, 7, 8, 9, MAX - 1, MAX};
        for (int t : others) {
            Checks.due("no such transaction: out(" + t + ", 0)", x.out(t, 0), 0);
            Checks.due("no such transaction: out(" + t + ", 12)", x.out(t, 12), 0);
            Checks.due("no such transaction: out(" + t + ", -12)", x.out(t, -12), 0);
        }
        x.next();
        Checks.transaction(x, "SET 0 5", "PUT 0");
        x.run(0);
        Checks.due("one less than in the block before: out(0, 1)", x.out(0, 1), 0);
        Checks.due("fewer transactions than before: out(2, 0)", x.out(2, 0), 0);
    }

    private static void outNotFinished() {
        BlockExecutor x = withThree();
        Checks.due("built: out(0, 0)", x.out(0, 0), 0);
        for (int steps = 0; steps < 60; steps++) {
            x.work(steps, steps);
            Checks.due("begun: out(0, 0)", x.out(0, 0), 0);
            Checks.due("begun: out(0, 1)", x.out(0, 1), 0);
            Checks.due("begun: out(2, 0)", x.out(2, 0), 0);
        }
        x.run(0);
        x.next();
        Checks.due("the next block: out(0, 0)", x.out(0, 0), 0);
        Checks.transaction(x, "SET 0 6", "PUT 0");
        Checks.due("the next block: out(0, 0)", x.out(0, 0), 0);
        x.work(0, 0);
        Checks.due("the next block is begun: out(0, 0)", x.out(0, 0), 0);
    }

    private static void stored() {
        BlockExecutor x = threeFinished();
        Checks.due("cells 0 and 15: stored(0)", x.stored(0), 0x8001);
        Checks.due("none: stored(2)", x.stored(2), 0);
        for (int cell = 0; cell < 16; cell++) {
            BlockExecutor y = new BlockExecutor(4);
            Checks.transaction(y, "SET 0 1", "STORE 0 " + cell);
            Checks.transaction(y, "SET 1 " + (cell + 16), "PLACE 0 1", "STORE 0 " + cell);
            Checks.transaction(y, "LOAD 0 " + cell, "STORE 0 " + cell);
            y.run(cell);
            for (int t = 0; t < 3; t++) {
                Checks.due("one: stored(" + t + ")", y.stored(t), 1 << cell);
            }
        }
        storedMany();
    }

    private static void storedMany() {
        BlockExecutor x = new BlockExecutor(4);
        x.begin();
        for (int cell = 0; cell < 12; cell++) {
            Checks.add(x, "STORE 0 " + cell);
        }
        x.begin();
        for (int cell = 4; cell < 16; cell++) {
            Checks.add(x, "STORE 0 " + cell);
        }
        x.begin();
        x.run(0);
        Checks.due("twelve: stored(0)", x.stored(0), 0x0FFF);
        Checks.due("twelve: stored(1)", x.stored(1), 0xFFF0);
        Checks.due("without instructions: stored(2)", x.stored(2), 0);
        x.poke(0, 1);
        Checks.due("after poke: stored(2)", x.stored(2), 0);
    }

    private static void storedFailed() {
        BlockExecutor x = threeFinished();
        Checks.due("stored(1)", x.stored(1), 0);
        BlockExecutor y = new BlockExecutor(1);
        Checks.transaction(y, "STORE 0 0", "STORE 0 1", "STORE 0 2", "STORE 0 3", "STORE 0 4",
                "STORE 0 5", "STORE 0 6", "STORE 0 7", "STORE 0 8", "STORE 0 9", "STORE 0 15",
                "NEED 0 1");
        y.run(0);
        Checks.due("eleven were stored: stored(0)", y.stored(0), 0);
    }

    private static void storedBad() {
        for (int count = 0; count <= 8; count++) {
            for (int phase = 0; phase < 3; phase++) {
                BlockExecutor x = withEmptyOnes(count, phase);
                String p = count + " transactions, phase " + phase + ": ";
                for (int t : WRONG) {
                    Checks.due(p + "stored(" + t + ")", x.stored(t), Checks.BAD);
                    Checks.due(p + "stored(" + (count - 1 - t) + ")", x.stored(count - 1 - t),
                            Checks.BAD);
                }
            }
        }
    }

    private static void storedNone() {
        BlockExecutor x = withThree();
        for (int t = 0; t < 3; t++) {
            Checks.due("built: stored(" + t + ")", x.stored(t), Checks.NONE);
        }
        for (int steps = 0; steps < 60; steps++) {
            x.work(steps, steps);
            for (int t = 0; t < 3; t++) {
                Checks.due("begun: stored(" + t + ")", x.stored(t), Checks.NONE);
            }
        }
        x.run(0);
        x.next();
        x.begin();
        Checks.due("the next block: stored(0)", x.stored(0), Checks.NONE);
    }

    private static void faults() {
        for (int workers = 1; workers <= 9; workers++) {
            BlockExecutor x = new BlockExecutor(workers);
            for (int t = 0; t < 8; t++) {
                Checks.transaction(x, "LOAD 0 " + (t & 1), "SET 1 1", "ADD 0 1", "STORE 0 " + (t & 1),
                        "NEED 0 " + (t == 4 ? 5 : 0));
                Checks.due("built", x.faults(), 0);
            }
            for (int i = 0; i < 150; i++) {
                x.work(i * 0x3F1D5 + workers, 1);
                Checks.due("while it runs", x.faults(), 0);
            }
            x.run(3);
            Checks.due("finished", x.faults(), 0);
            x.poke(0, 1000);
            x.poke(1, 1000);
            Checks.due("finished and poked", x.faults(), 0);
            x.next();
            Checks.due("the next block", x.faults(), 0);
            x.begin();
            Checks.due("the next block, with one", x.faults(), 0);
            x.work(0, 0);
            Checks.due("the next block is begun", x.faults(), 0);
        }
        Checks.due("a new object", new BlockExecutor(0).faults(), 0);
    }
}
