/** Promises 6 to 9: the sentences on running a block and on the next one. */
final class RunningSentences {
    private static final int MAX = Checks.MAX;
    private static final int MIN = Checks.MIN;
    private static final int[] STEPS = {0, 1, -1, 2, 5, 40, 1000, MAX - 1, MAX, MIN, MIN + 1};

    private RunningSentences() {
    }

    static void tell(Sentences s) {
        s.part("Promise 6");
        s.test("Begins to run the block (if it has not been begun), and goes on with it to its end.",
                RunningSentences::runToTheEnd);
        s.test("It is finished: FINISHED.", RunningSentences::runFinished);
        s.test("Else it is finished then", RunningSentences::runFinishes);
        s.test("and the answer is how many transactions are done.", RunningSentences::runAnswers);
        s.test("schedule (any int) says who works when; it shows in no answer.",
                RunningSentences::runAnySchedule);

        s.part("Promise 7");
        s.test("Begins to run the block, if it has not been begun", RunningSentences::workBegins);
        s.test("and lets some steps of work be made.", RunningSentences::workAnySteps);
        s.test("It is finished: FINISHED.", RunningSentences::workFinished);
        s.test("Else answers 0: nothing is to be seen of how far it is", RunningSentences::workAnswers);
        s.test("(but begin, add, undo and poke are refused from now on until the block is finished",
                RunningSentences::workRefuses);
        s.test("and it is not finished by this call).", RunningSentences::workDoesNotFinish);

        s.part("Promise 8");
        s.test("0 while the block is built", RunningSentences::phaseBuilt);
        s.test("1 when it has been begun to run", RunningSentences::phaseBegun);
        s.test("2 when it is finished.", RunningSentences::phaseFinished);

        s.part("Promise 9");
        s.test("A new block, without transactions, is built", RunningSentences::nextBlock);
        s.test("the store stays as it is.", RunningSentences::nextStore);
        s.test("The block has been begun to run and is not finished: RUNNING.",
                RunningSentences::nextRunning);
        s.test("Else answers 0.", RunningSentences::nextAnswers);
    }

    private static void addAmount(BlockExecutor x, int cell, int amount) {
        Checks.transaction(x, "LOAD 0 " + cell, "SET 1 " + amount, "ADD 0 1", "STORE 0 " + cell,
                "PUT 0");
    }

    private static BlockExecutor withTwo() {
        BlockExecutor x = new BlockExecutor(3);
        addAmount(x, 4, 7);
        addAmount(x, 4, 8);
        return x;
    }

    private static void runToTheEnd() {
        BlockExecutor x = withTwo();
        Checks.due("not begun: run(0)", x.run(0), 2);
        Checks.dueCells("not begun", x, 0, 0, 0, 0, 15);
        for (int steps : STEPS) {
            x = withTwo();
            x.work(3, steps);
            x.work(-3, steps);
            Checks.due("begun with " + steps + " steps: run(0)", x.run(0), 2);
            Checks.dueCells("begun with " + steps + " steps", x, 0, 0, 0, 0, 15);
        }
    }

    private static void runFinished() {
        BlockExecutor x = withTwo();
        x.run(0);
        int[] schedules = {0, 1, -1, MIN, MAX};
        for (int schedule : schedules) {
            Checks.due("run(" + schedule + ")", x.run(schedule), Checks.FINISHED);
        }
        Checks.dueCells("it was not carried out again", x, 0, 0, 0, 0, 15);
        Checks.dueOuts("it was not carried out again", x, 0, 7);
        x = new BlockExecutor(3);
        x.run(0);
        Checks.due("an empty block", x.run(0), Checks.FINISHED);
        x.poke(1, 1);
        Checks.due("after poke", x.run(0), Checks.FINISHED);
    }

    private static void runFinishes() {
        BlockExecutor x = new BlockExecutor(2);
        x.run(0);
        Checks.due("an empty block: phase()", x.phase(), 2);
        x = withTwo();
        x.run(0);
        Checks.due("a block with two: phase()", x.phase(), 2);
        Checks.due("result(1)", x.result(1), 1);
        x = withTwo();
        x.work(0, 3);
        x.run(0);
        Checks.due("after work: phase()", x.phase(), 2);
    }

    private static void runAnswers() {
        BlockExecutor x = new BlockExecutor(4);
        Checks.due("an empty block", x.run(0), 0);
        for (int count = 0; count <= 8; count++) {
            for (int failing = 0; failing <= count; failing++) {
                x.next();
                for (int t = 0; t < count; t++) {
                    x.begin();
                    x.add(Code.NEED, 0, (t + failing) % count < failing ? 1 : 0);
                }
                int want = count - failing;
                Checks.due(failing + " of " + count + " fail", x.run(count), want);
                x = new BlockExecutor(4);
            }
        }
        for (int t = 0; t < 8; t++) {
            x.begin();
        }
        Checks.due("eight without instructions", x.run(0), 8);
    }

    private static void runAnySchedule() {
        for (int workers = 1; workers <= 9; workers++) {
            for (int schedule : Stories.SCHEDULES) {
                anySchedule(workers, schedule);
            }
            for (int i = 0; i < 100; i++) {
                anySchedule(workers, i * 0x9E3779B9 + workers);
            }
        }
    }

    private static void anySchedule(int workers, int schedule) {
        Twin x = new Twin(workers);
        Stories.fullBuilt(x);
        x.run(schedule);
        x.askAll();
        x.next();
        Stories.someBuilt(x);
        x.work(schedule, schedule & 63);
        x.run(schedule);
        x.askAll();
    }

    private static void workBegins() {
        for (int steps : STEPS) {
            BlockExecutor x = withTwo();
            x.work(5, steps);
            Checks.due("with " + steps + " steps: phase()", x.phase(), 1);
            x.work(6, steps);
            Checks.due("with " + steps + " steps again: phase()", x.phase(), 1);
            x = new BlockExecutor(2);
            x.work(5, steps);
            Checks.due("an empty block, with " + steps + " steps: phase()", x.phase(), 1);
        }
    }

    private static void workAnySteps() {
        for (int first : STEPS) {
            for (int second : STEPS) {
                BlockExecutor x = withTwo();
                String p = "work with " + first + " and " + second + " steps";
                Checks.due(p, x.work(5, first), 0);
                Checks.due(p, x.work(-7, second), 0);
                Checks.dueCells(p + ": nothing shows", x);
                Checks.due(p + ": run(9)", x.run(9), 2);
                Checks.dueCells(p, x, 0, 0, 0, 0, 15);
                Checks.dueOuts(p, x, 0, 7);
                Checks.dueOuts(p, x, 1, 15);
            }
        }
    }

    private static void workFinished() {
        for (int steps : STEPS) {
            BlockExecutor x = withTwo();
            x.run(0);
            Checks.due("work(0, " + steps + ")", x.work(0, steps), Checks.FINISHED);
            Checks.due("work(-1, " + steps + ")", x.work(-1, steps), Checks.FINISHED);
            Checks.due("phase()", x.phase(), 2);
            Checks.dueCells("nothing more is carried out", x, 0, 0, 0, 0, 15);
        }
        BlockExecutor x = new BlockExecutor(2);
        x.run(0);
        Checks.due("an empty block", x.work(0, 0), Checks.FINISHED);
    }

    private static void workAnswers() {
        for (int schedule : Stories.SCHEDULES) {
            Twin x = new Twin(5);
            Stories.someBuilt(x);
            for (int steps = 0; steps < 8; steps++) {
                Checks.due("work(" + schedule + ", " + steps + ")", x.work(schedule, steps), 0);
                x.askAll();
            }
            Checks.due("work(" + schedule + ", greatest)", x.work(schedule, MAX), 0);
            x.askAll();
        }
    }

    private static void workRefuses() {
        for (int steps : STEPS) {
            BlockExecutor x = withTwo();
            x.work(5, steps);
            for (int i = 0; i < 3; i++) {
                Checks.due("begin()", x.begin(), Checks.RUNNING);
                Checks.due("add", x.add(0, 0, 0), Checks.RUNNING);
                Checks.due("undo()", x.undo(), Checks.RUNNING);
                Checks.due("poke", x.poke(0, 1), Checks.RUNNING);
                x.work(5, i);
            }
            x.run(0);
            Checks.due("finished: poke", x.poke(0, 1), 0);
            Checks.due("finished: begin()", x.begin(), Checks.FINISHED);
            x.next();
            Checks.due("the next block: begin()", x.begin(), 0);
        }
    }

    private static void workDoesNotFinish() {
        BlockExecutor x = new BlockExecutor(8);
        for (int t = 0; t < 8; t++) {
            addAmount(x, 2, 1);
        }
        for (int i = 0; i < 300; i++) {
            Checks.due("many times", x.work(i * 7919, i), 0);
        }
        Checks.due("work(0, greatest)", x.work(0, MAX), 0);
        Checks.due("phase()", x.phase(), 1);
        Checks.due("cell(2)", x.cell(2), 0);
        Checks.due("result(0)", x.result(0), Checks.NONE);
        Checks.due("run(0)", x.run(0), 8);
        Checks.due("cell(2)", x.cell(2), 8);
        x = new BlockExecutor(8);
        x.work(0, MAX);
        Checks.due("an empty block: phase()", x.phase(), 1);
        Checks.due("an empty block: run(0)", x.run(0), 0);
    }

    private static void phaseBuilt() {
        BlockExecutor x = new BlockExecutor(2);
        Checks.due("a new object", x.phase(), 0);
        addAmount(x, 0, 1);
        x.poke(0, 1);
        x.undo();
        Checks.due("with a transaction", x.phase(), 0);
        x.next();
        Checks.due("after next", x.phase(), 0);
        x.run(0);
        x.next();
        Checks.due("after run and next", x.phase(), 0);
        x.begin();
        Checks.due("and begin", x.phase(), 0);
    }

    private static void phaseBegun() {
        BlockExecutor x = withTwo();
        x.work(0, 0);
        Checks.due("by no step", x.phase(), 1);
        x.begin();
        x.next();
        x.poke(0, 0);
        Checks.due("after refused calls", x.phase(), 1);
        x.work(1, 1000);
        Checks.due("by many steps", x.phase(), 1);
        x = new BlockExecutor(2);
        x.work(0, 0);
        Checks.due("an empty block", x.phase(), 1);
    }

    private static void phaseFinished() {
        BlockExecutor x = withTwo();
        x.run(0);
        Checks.due("by run", x.phase(), 2);
        x.begin();
        x.work(0, 1);
        x.run(0);
        Checks.due("after refused calls", x.phase(), 2);
        x.poke(0, 1);
        Checks.due("after poke", x.phase(), 2);
        x = new BlockExecutor(2);
        x.work(0, 0);
        x.run(0);
        Checks.due("an empty block", x.phase(), 2);
    }

    private static void nextBlock() {
        BlockExecutor x = withTwo();
        x.next();
        Checks.due("in place of one that was built: transactions()", x.transactions(), 0);
        Checks.due("phase()", x.phase(), 0);
        Checks.due("undo()", x.undo(), Checks.NONE);
        Checks.due("run(0)", x.run(0), 0);
        x = withTwo();
        x.run(0);
        x.next();
        Checks.due("after a finished one: transactions()", x.transactions(), 0);
        Checks.due("phase()", x.phase(), 0);
        Checks.due("result(0)", x.result(0), Checks.BAD);
        Checks.due("out(0, 0)", x.out(0, 0), 0);
        Checks.due("add", x.add(0, 0, 0), Checks.NONE);
        Checks.due("begin()", x.begin(), 0);
        Checks.due("result(0)", x.result(0), Checks.NONE);
        Checks.due("outs(0)", x.outs(0), Checks.NONE);
        Checks.due("stored(0)", x.stored(0), Checks.NONE);
        Checks.due("faults()", x.faults(), 0);
        Checks.due("run(0)", x.run(0), 1);
        Checks.dueOuts("nothing of the block before is in it", x, 0);
        Checks.due("stored(0)", x.stored(0), 0);
        x.next();
        Checks.transaction(x, "NEED 0 1");
        x.run(0);
        x.next();
        Checks.transaction(x, "NEED 0 0");
        Checks.due("one that failed in the block before: run(0)", x.run(0), 1);
    }

    private static void nextStore() {
        BlockExecutor x = withTwo();
        x.poke(0, 3);
        x.poke(15, MIN);
        x.next();
        Checks.dueCells("a block that was built is not carried out", x, 3, 0, 0, 0, 0, 0, 0, 0, 0, 0, 0,
                0, 0, 0, 0, MIN);
        addAmount(x, 0, 5);
        x.run(0);
        x.poke(1, 9);
        x.next();
        Checks.dueCells("after a finished one", x, 8, 9, 0, 0, 0, 0, 0, 0, 0, 0, 0, 0, 0, 0, 0, MIN);
        x.next();
        x.next();
        Checks.dueCells("again and again", x, 8, 9, 0, 0, 0, 0, 0, 0, 0, 0, 0, 0, 0, 0, 0, MIN);
    }

    private static void nextRunning() {
        BlockExecutor x = withTwo();
        x.work(0, 0);
        Checks.due("before the first step", x.next(), Checks.RUNNING);
        x.work(0, 1000);
        Checks.due("after many steps", x.next(), Checks.RUNNING);
        Checks.due("transactions()", x.transactions(), 2);
        Checks.due("phase()", x.phase(), 1);
        Checks.due("run(0)", x.run(0), 2);
        x = new BlockExecutor(2);
        x.work(0, 0);
        Checks.due("an empty block", x.next(), Checks.RUNNING);
    }

    private static void nextAnswers() {
        BlockExecutor x = new BlockExecutor(2);
        Checks.due("a new object", x.next(), 0);
        addAmount(x, 0, 1);
        Checks.due("while it is built", x.next(), 0);
        addAmount(x, 0, 1);
        x.work(0, 2);
        x.run(0);
        Checks.due("when it is finished", x.next(), 0);
        x.run(0);
        Checks.due("when an empty one is finished", x.next(), 0);
        Checks.due("and again", x.next(), 0);
    }
}
