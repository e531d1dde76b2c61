/** Promises 1 to 5: the sentences on a new object and on building a block. */
final class BuildingSentences {
    private static final int MAX = Checks.MAX;
    private static final int MIN = Checks.MIN;

    private BuildingSentences() {
    }

    static void tell(Sentences s) {
        s.part("Promise 1");
        s.test("As said above.", BuildingSentences::newObject);
        s.test("workers (any int) says how many work at the same time", BuildingSentences::anyWorkers);
        s.test("it shows in no answer.", BuildingSentences::workersDoNotShow);

        s.part("Promise 2");
        s.test("Adds a transaction without instructions at the end of the block.",
                BuildingSentences::beginAdds);
        s.test("It is finished: FINISHED", BuildingSentences::beginFinished);
        s.test("it has been begun to run: RUNNING", BuildingSentences::beginRunning);
        s.test("it has eight: FULL.", BuildingSentences::beginFull);
        s.test("Else answers its number.", BuildingSentences::beginNumber);

        s.part("Promise 3");
        s.test("Adds an instruction at the end of the last transaction.", BuildingSentences::addAdds);
        s.test("The block is finished: FINISHED", BuildingSentences::addFinished);
        s.test("it has been begun to run: RUNNING", BuildingSentences::addRunning);
        s.test("operation is not 0 .. 11", BuildingSentences::addBadOperation);
        s.test("or places (4 * a + b) is not 0 .. 15: BAD", BuildingSentences::addBadPlaces);
        s.test("there is no transaction: NONE", BuildingSentences::addNone);
        s.test("it has twelve instructions: FULL.", BuildingSentences::addFull);
        s.test("Else answers its position.", BuildingSentences::addPosition);

        s.part("Promise 4");
        s.test("Takes the last instruction of the last transaction away",
                BuildingSentences::undoInstruction);
        s.test("or, if it has none, the transaction.", BuildingSentences::undoTransaction);
        s.test("The block is finished: FINISHED", BuildingSentences::undoFinished);
        s.test("it has been begun to run: RUNNING", BuildingSentences::undoRunning);
        s.test("there is no transaction: NONE.", BuildingSentences::undoNone);
        s.test("Else answers how many instructions the last transaction has then",
                BuildingSentences::undoAnswers);
        s.test("(0 if there is none any more)", BuildingSentences::undoTheLastOne);

        s.part("Promise 5");
        s.test("Sets a cell.", BuildingSentences::pokeSets);
        s.test("The block has been begun to run and is not finished: RUNNING",
                BuildingSentences::pokeRunning);
        s.test("cell is not good: BAD.", BuildingSentences::pokeBad);
        s.test("Else answers 0.", BuildingSentences::pokeAnswers);
    }

    private static BlockExecutor withEight() {
        BlockExecutor x = new BlockExecutor(2);
        for (int t = 0; t < 8; t++) {
            x.begin();
        }
        return x;
    }

    private static void newObject() {
        BlockExecutor x = new BlockExecutor(4);
        Checks.due("phase()", x.phase(), 0);
        Checks.due("transactions()", x.transactions(), 0);
        Checks.due("faults()", x.faults(), 0);
        Checks.due("result(0)", x.result(0), Checks.BAD);
        Checks.due("outs(0)", x.outs(0), Checks.BAD);
        Checks.due("out(0, 0)", x.out(0, 0), 0);
        Checks.due("stored(0)", x.stored(0), Checks.BAD);
        Checks.dueCells("a new object", x);
        Checks.due("undo()", x.undo(), Checks.NONE);
        Checks.due("add", x.add(0, 0, 0), Checks.NONE);
        Checks.due("run(0)", x.run(0), 0);
        Checks.due("another one is built: phase()", new BlockExecutor(4).phase(), 0);
    }

    private static void anyWorkers() {
        for (int workers : Stories.WORKERS) {
            BlockExecutor x = new BlockExecutor(workers);
            Checks.transaction(x, "SET 0 5", "STORE 0 3");
            Checks.transaction(x, "LOAD 1 3", "STORE 1 2");
            Checks.due("workers " + workers + ": run(0)", x.run(0), 2);
            Checks.dueCells("workers " + workers, x, 0, 0, 5, 5);
        }
    }

    private static void workersDoNotShow() {
        for (int workers : Stories.WORKERS) {
            for (int steps = 0; steps < 12; steps++) {
                Twin x = new Twin(workers);
                Stories.fullBuilt(x);
                x.work(workers * 31 + steps, steps * 11);
                x.askAll();
                x.run(steps);
                x.askAll();
            }
        }
    }

    private static void beginAdds() {
        BlockExecutor x = new BlockExecutor(2);
        Checks.transaction(x, "SET 0 1", "PUT 0", "STORE 0 1");
        x.begin();
        Checks.due("it is at the end: transactions()", x.transactions(), 2);
        Checks.due("it is without instructions: undo() takes it", x.undo(), 3);
        x.begin();
        Checks.due("run(0)", x.run(0), 2);
        Checks.dueOuts("the one before", x, 0, 1);
        Checks.dueOuts("it does nothing", x, 1);
        Checks.due("it does nothing: stored(1)", x.stored(1), 0);
        beginAfterUndo();
        beginInTheNextBlock();
    }

    private static void beginAfterUndo() {
        BlockExecutor x = new BlockExecutor(2);
        Checks.transaction(x, "PUT 0");
        Checks.transaction(x, "PUT 0", "PUT 0");
        x.undo();
        x.undo();
        x.undo();
        Checks.due("begun again: begin()", x.begin(), 1);
        Checks.due("run(0)", x.run(0), 2);
        Checks.dueOuts("what was undone is not in it", x, 1);
    }

    private static void beginInTheNextBlock() {
        BlockExecutor x = new BlockExecutor(2);
        Checks.transaction(x, "PUT 0", "PUT 0");
        x.run(0);
        x.next();
        x.begin();
        Checks.due("in the next block: undo()", x.undo(), 0);
        Checks.due("in the next block: transactions()", x.transactions(), 0);
        x.begin();
        x.run(0);
        Checks.dueOuts("in the next block", x, 0);
    }

    private static void beginFinished() {
        BlockExecutor x = new BlockExecutor(2);
        x.run(0);
        Checks.due("an empty block", x.begin(), Checks.FINISHED);
        Checks.due("transactions()", x.transactions(), 0);
        x.next();
        x.begin();
        x.work(0, 3);
        x.run(0);
        Checks.due("a block with one", x.begin(), Checks.FINISHED);
        Checks.due("transactions()", x.transactions(), 1);
        x = withEight();
        x.run(0);
        Checks.due("a full block", x.begin(), Checks.FINISHED);
    }

    private static void beginRunning() {
        BlockExecutor x = new BlockExecutor(2);
        x.work(0, 0);
        Checks.due("an empty block", x.begin(), Checks.RUNNING);
        x = new BlockExecutor(2);
        x.begin();
        x.work(0, 1000);
        Checks.due("a block with one", x.begin(), Checks.RUNNING);
        Checks.due("transactions()", x.transactions(), 1);
        x = withEight();
        x.work(0, -1);
        Checks.due("a full block", x.begin(), Checks.RUNNING);
    }

    private static void beginFull() {
        BlockExecutor x = withEight();
        Checks.due("with eight", x.begin(), Checks.FULL);
        Checks.due("and again", x.begin(), Checks.FULL);
        Checks.due("transactions()", x.transactions(), 8);
        x.undo();
        Checks.due("with seven", x.begin(), 7);
        Checks.due("with eight", x.begin(), Checks.FULL);
        Checks.due("run(0)", x.run(0), 8);
    }

    private static void beginNumber() {
        BlockExecutor x = new BlockExecutor(2);
        for (int block = 0; block < 3; block++) {
            for (int t = 0; t < 8; t++) {
                Checks.due("begin()", x.begin(), t);
            }
            x.next();
        }
    }

    private static void addAdds() {
        BlockExecutor x = new BlockExecutor(2);
        Checks.transaction(x, "SET 0 1", "PUT 0");
        Checks.transaction(x, "SET 0 2", "PUT 0", "SET 0 3");
        Checks.add(x, "PUT 0");
        x.run(0);
        Checks.dueOuts("the one before is as it was", x, 0, 1);
        Checks.dueOuts("the last one", x, 1, 2, 3);
    }

    private static void addFinished() {
        BlockExecutor x = new BlockExecutor(2);
        x.run(0);
        Checks.due("an empty block", x.add(0, 0, 0), Checks.FINISHED);
        x.next();
        Checks.transaction(x, "PUT 0");
        x.run(0);
        Checks.due("a block with one", x.add(8, 0, 0), Checks.FINISHED);
        Checks.due("wrong arguments", x.add(12, 16, 0), Checks.FINISHED);
        Checks.due("outs(0)", x.outs(0), 1);
    }

    private static void addRunning() {
        BlockExecutor x = new BlockExecutor(2);
        x.work(0, 0);
        Checks.due("an empty block", x.add(0, 0, 0), Checks.RUNNING);
        x.run(0);
        x.next();
        Checks.transaction(x, "PUT 0");
        x.work(0, 0);
        Checks.due("before the first step", x.add(8, 0, 0), Checks.RUNNING);
        Checks.due("wrong arguments", x.add(-1, -1, 0), Checks.RUNNING);
        x.work(0, 1000);
        Checks.due("after many steps", x.add(8, 0, 0), Checks.RUNNING);
        x.run(0);
        Checks.due("it was not added: outs(0)", x.outs(0), 1);
    }

    private static void addBadOperation() {
        BlockExecutor x = new BlockExecutor(2);
        x.begin();
        int[] wrong = {MIN, MIN + 1, -256, -12, -2, -1, 12, 13, 16, 23, 24, 32, 64, 256, MAX - 1, MAX};
        for (int operation : wrong) {
            Checks.due("add(" + operation + ", 0, 0)", x.add(operation, 0, 0), Checks.BAD);
            Checks.due("add(" + operation + ", 15, 5)", x.add(operation, 15, 5), Checks.BAD);
        }
        for (int operation = 0; operation < 12; operation++) {
            Checks.due("add(" + operation + ", 0, 0)", x.add(operation, 0, 0), operation);
        }
    }

    private static void addBadPlaces() {
        BlockExecutor x = new BlockExecutor(2);
        x.begin();
        int[] wrong = {MIN, MIN + 1, -256, -16, -2, -1, 16, 17, 20, 31, 32, 64, 256, MAX - 1, MAX};
        for (int places : wrong) {
            Checks.due("add(0, " + places + ", 0)", x.add(0, places, 0), Checks.BAD);
            Checks.due("add(11, " + places + ", 5)", x.add(11, places, 5), Checks.BAD);
        }
        for (int places = 0; places < 12; places++) {
            Checks.due("add(0, " + places + ", 0)", x.add(0, places, 0), places);
        }
        x.begin();
        for (int places = 12; places < 16; places++) {
            Checks.due("add(0, " + places + ", 0)", x.add(0, places, 0), places - 12);
        }
    }

    private static void addNone() {
        BlockExecutor x = new BlockExecutor(2);
        Checks.due("a new object", x.add(0, 0, 0), Checks.NONE);
        Checks.due("and again", x.add(11, 15, MIN), Checks.NONE);
        x.begin();
        x.undo();
        Checks.due("after undo", x.add(0, 0, 0), Checks.NONE);
        x.begin();
        x.next();
        Checks.due("after next", x.add(0, 0, 0), Checks.NONE);
        Checks.due("the first one then: begin()", x.begin(), 0);
        Checks.due("add", x.add(0, 0, 0), 0);
    }

    private static void addFull() {
        BlockExecutor x = new BlockExecutor(2);
        for (int t = 0; t < 8; t++) {
            x.begin();
            for (int i = 0; i < 12; i++) {
                Checks.add(x, "PUT 0");
            }
            Checks.due("a thirteenth", Checks.add(x, "PUT 0"), Checks.FULL);
            Checks.due("and again", Checks.add(x, "NEED 0 1"), Checks.FULL);
        }
        x.undo();
        Checks.due("with eleven", Checks.add(x, "PUT 0"), 11);
        Checks.due("with twelve", Checks.add(x, "PUT 0"), Checks.FULL);
        Checks.due("run(3)", x.run(3), 8);
        for (int t = 0; t < 8; t++) {
            Checks.due("outs(" + t + ")", x.outs(t), 12);
        }
    }

    private static void addPosition() {
        BlockExecutor x = new BlockExecutor(2);
        for (int t = 0; t < 8; t++) {
            x.begin();
            for (int i = 0; i < 12; i++) {
                Checks.due("add", x.add(i, 15 - i, MIN + i), i);
            }
        }
        x.undo();
        x.undo();
        Checks.due("after undo", x.add(0, 0, 0), 10);
    }

    private static void undoInstruction() {
        BlockExecutor x = new BlockExecutor(3);
        Checks.transaction(x, "SET 0 6", "PUT 0");
        Checks.transaction(x, "SET 0 7", "STORE 0 1", "STORE 0 2", "PUT 0");
        x.undo();
        x.undo();
        Checks.due("the place is free again", Checks.add(x, "STORE 0 4"), 2);
        Checks.due("run(5)", x.run(5), 2);
        Checks.dueCells("what was undone is not carried out", x, 0, 7, 0, 0, 7);
        Checks.due("stored(1)", x.stored(1), 1 << 1 | 1 << 4);
        Checks.dueOuts("the one before stays", x, 0, 6);
        Checks.dueOuts("what was undone is not put out", x, 1);
    }

    private static void undoTransaction() {
        BlockExecutor x = new BlockExecutor(3);
        Checks.transaction(x, "SET 0 7", "PUT 0");
        x.begin();
        x.begin();
        x.undo();
        Checks.due("transactions()", x.transactions(), 2);
        x.undo();
        Checks.due("transactions()", x.transactions(), 1);
        Checks.due("the one before is the last one", Checks.add(x, "PUT 0"), 2);
        x.undo();
        Checks.due("with instructions it stays", x.transactions(), 1);
        Checks.due("run(5)", x.run(5), 1);
        Checks.dueOuts("the one before", x, 0, 7);
        Checks.due("the one taken away: result(1)", x.result(1), Checks.BAD);
    }

    private static void undoFinished() {
        BlockExecutor x = new BlockExecutor(2);
        x.run(0);
        Checks.due("an empty block", x.undo(), Checks.FINISHED);
        x.next();
        Checks.transaction(x, "PUT 0");
        x.run(0);
        Checks.due("a block with one", x.undo(), Checks.FINISHED);
        Checks.due("transactions()", x.transactions(), 1);
        Checks.due("outs(0)", x.outs(0), 1);
    }

    private static void undoRunning() {
        BlockExecutor x = new BlockExecutor(2);
        x.work(0, 0);
        Checks.due("an empty block", x.undo(), Checks.RUNNING);
        x.run(0);
        x.next();
        Checks.transaction(x, "PUT 0");
        x.work(0, 0);
        Checks.due("before the first step", x.undo(), Checks.RUNNING);
        x.work(0, 1000);
        Checks.due("after many steps", x.undo(), Checks.RUNNING);
        x.run(0);
        Checks.due("outs(0)", x.outs(0), 1);
    }

    private static void undoNone() {
        BlockExecutor x = new BlockExecutor(2);
        Checks.due("a new object", x.undo(), Checks.NONE);
        x.begin();
        x.undo();
        Checks.due("after the only one was taken away", x.undo(), Checks.NONE);
        Checks.due("transactions()", x.transactions(), 0);
        x.begin();
        x.next();
        Checks.due("after next", x.undo(), Checks.NONE);
        Checks.due("begin()", x.begin(), 0);
    }

    private static void undoAnswers() {
        BlockExecutor x = new BlockExecutor(2);
        Checks.transaction(x, "PUT 0", "PUT 0", "PUT 0");
        x.begin();
        x.begin();
        Checks.due("an empty one before: undo()", x.undo(), 0);
        Checks.due("three before: undo()", x.undo(), 3);
        Checks.due("undo()", x.undo(), 2);
        Checks.due("undo()", x.undo(), 1);
        Checks.due("the last instruction: undo()", x.undo(), 0);
        Checks.due("the transaction stays", x.transactions(), 1);
        undoAFullBlock();
    }

    private static void undoAFullBlock() {
        BlockExecutor x = new BlockExecutor(2);
        for (int t = 0; t < 8; t++) {
            x.begin();
            for (int i = 0; i < 12; i++) {
                x.add(0, 0, 0);
            }
        }
        for (int t = 7; t >= 0; t--) {
            for (int i = 11; i >= 0; i--) {
                Checks.due("an instruction of " + t + ": undo()", x.undo(), i);
            }
            Checks.due("transaction " + t + ": undo()", x.undo(), t == 0 ? 0 : 12);
        }
    }

    private static void undoTheLastOne() {
        BlockExecutor x = new BlockExecutor(2);
        Checks.transaction(x, "PUT 0", "PUT 0");
        x.next();
        x.begin();
        Checks.due("undo()", x.undo(), 0);
        Checks.due("transactions()", x.transactions(), 0);
        Checks.transaction(x, "PUT 0");
        x.undo();
        Checks.due("undo()", x.undo(), 0);
        Checks.due("transactions()", x.transactions(), 0);
    }

    private static void pokeSets() {
        BlockExecutor x = new BlockExecutor(2);
        for (int i = 0; i < 16; i++) {
            x.poke(i, i % 2 == 0 ? MIN + i : MAX - i);
        }
        for (int i = 0; i < 16; i++) {
            Checks.due("cell(" + i + ")", x.cell(i), i % 2 == 0 ? MIN + i : MAX - i);
        }
        x.poke(3, 0);
        Checks.due("cell(3)", x.cell(3), 0);
        x.poke(3, 103);
        Checks.transaction(x, "LOAD 0 3", "PUT 0", "STORE 0 4");
        x.poke(3, 104);
        x.run(0);
        Checks.dueOuts("what was poked last is seen", x, 0, 104);
        x.poke(4, 77);
        Checks.due("in a finished block: cell(4)", x.cell(4), 77);
        Checks.due("it is still finished", x.phase(), 2);
        Checks.dueOuts("what was put out stays", x, 0, 104);
        Checks.due("stored(0)", x.stored(0), 16);
        Checks.due("faults()", x.faults(), 0);
    }

    private static void pokeRunning() {
        BlockExecutor x = new BlockExecutor(2);
        x.poke(3, 5);
        Checks.transaction(x, "LOAD 0 3", "PUT 0");
        x.work(0, 0);
        Checks.due("before the first step", x.poke(3, 6), Checks.RUNNING);
        Checks.due("a wrong cell", x.poke(16, 6), Checks.RUNNING);
        Checks.due("a wrong cell", x.poke(-1, 6), Checks.RUNNING);
        x.work(0, 1000);
        Checks.due("after many steps", x.poke(3, 6), Checks.RUNNING);
        Checks.due("cell(3)", x.cell(3), 5);
        x.run(0);
        Checks.dueOuts("it was not poked", x, 0, 5);
        Checks.due("cell(3)", x.cell(3), 5);
        Checks.due("finished", x.poke(3, 6), 0);
    }

    private static void pokeBad() {
        BlockExecutor x = new BlockExecutor(2);
        int[] wrong = {MIN, MIN + 1, -17, -16, -2, -1, 16, 17, 31, 32, 256, MAX - 1, MAX};
        for (int c : wrong) {
            Checks.due("poke(" + c + ", 5)", x.poke(c, 5), Checks.BAD);
        }
        Checks.dueCells("nothing was set", x);
        x.run(0);
        for (int c : wrong) {
            Checks.due("finished: poke(" + c + ", 5)", x.poke(c, 5), Checks.BAD);
        }
        Checks.dueCells("nothing was set", x);
    }

    private static void pokeAnswers() {
        BlockExecutor x = new BlockExecutor(2);
        int[] values = {MIN, -5, -1, 0, 1, MAX};
        for (int phase = 0; phase < 3; phase += 2) {
            Checks.due("phase()", x.phase(), phase);
            for (int value : values) {
                Checks.due("poke(0, " + value + ")", x.poke(0, value), 0);
                Checks.due("poke(15, " + value + ")", x.poke(15, value), 0);
            }
            x.run(0);
        }
    }
}
