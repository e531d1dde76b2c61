/** Promises 1 to 5, 9 and 12: a new object, and a block that is being built. */
public final class BuildingTest {
    public static void main(String[] args) {
        promise1NewObject();
        promise2Begin();
        promise3Add();
        promise3AddOrderOfTests();
        promise4Undo();
        promise4UndoneIsNotCarriedOut();
        promise5Poke();
        promise9Next();
        promise12Transactions();
        refusedWhileRunning();
        refusedWhenFinished();
        Checks.end();
    }

    private static void promise1NewObject() {
        int[] workers = {1, 2, 3, 7, 8, 9, 100, 0, -1, Integer.MAX_VALUE, Integer.MIN_VALUE};
        for (int w : workers) {
            String p = "promise 1, workers " + w + ": ";
            BlockExecutor x = new BlockExecutor(w);
            Checks.due(p + "phase()", x.phase(), 0);
            Checks.due(p + "transactions()", x.transactions(), 0);
            Checks.due(p + "faults()", x.faults(), 0);
            Checks.dueCells(p, x);
            Checks.transaction(x, Checks.SET, 0, 0, 5, Checks.STORE, 0, 0, 3);
            Checks.transaction(x, Checks.LOAD, 1, 0, 3, Checks.STORE, 1, 0, 2);
            Checks.due(p + "run(0)", x.run(0), 2);
            Checks.dueCells(p + "after run", x, 0, 0, 5, 5);
        }
    }

    private static void promise2Begin() {
        BlockExecutor x = new BlockExecutor(2);
        for (int t = 0; t < 8; t++) {
            Checks.due("promise 2: begin()", x.begin(), t);
        }
        Checks.due("promise 2: begin() with eight", x.begin(), Checks.FULL);
        Checks.due("promise 2: transactions() after FULL", x.transactions(), 8);
        Checks.due("promise 2: run(1) with eight empty ones", x.run(1), 8);
        Checks.due("promise 2: FINISHED before FULL", x.begin(), Checks.FINISHED);

        BlockExecutor y = new BlockExecutor(2);
        for (int t = 0; t < 8; t++) {
            y.begin();
        }
        y.work(1, 1);
        Checks.due("promise 2: RUNNING before FULL", y.begin(), Checks.RUNNING);
    }

    private static void promise3Add() {
        BlockExecutor x = new BlockExecutor(2);
        Checks.due("promise 3: add without transaction", x.add(0, 0, 0), Checks.NONE);
        x.begin();
        for (int i = 0; i < 12; i++) {
            Checks.due("promise 3: add, position", x.add(i, i, Integer.MIN_VALUE + i), i);
        }
        Checks.due("promise 3: add with twelve", x.add(0, 0, 0), Checks.FULL);
        x.begin();
        Checks.due("promise 3: add goes to the last transaction", x.add(0, 15, 0), 0);
        Checks.due("promise 3: operation -1", x.add(-1, 0, 0), Checks.BAD);
        Checks.due("promise 3: operation 12", x.add(12, 0, 0), Checks.BAD);
        Checks.due("promise 3: places -1", x.add(0, -1, 0), Checks.BAD);
        Checks.due("promise 3: places 16", x.add(0, 16, 0), Checks.BAD);
        Checks.due("promise 3: least operation", x.add(Integer.MIN_VALUE, 0, 0), Checks.BAD);
        Checks.due("promise 3: greatest places", x.add(0, Integer.MAX_VALUE, 0), Checks.BAD);
        Checks.due("promise 3: a refused add changes nothing", x.add(11, 0, 0), 1);
    }

    private static void promise3AddOrderOfTests() {
        BlockExecutor x = new BlockExecutor(2);
        Checks.due("promise 3: BAD before NONE", x.add(12, 0, 0), Checks.BAD);
        x.begin();
        for (int i = 0; i < 12; i++) {
            x.add(0, 0, 0);
        }
        Checks.due("promise 3: BAD before FULL", x.add(0, 16, 0), Checks.BAD);
        x.work(0, 0);
        Checks.due("promise 3: RUNNING before BAD", x.add(12, 16, 0), Checks.RUNNING);
        x.run(0);
        Checks.due("promise 3: FINISHED before BAD", x.add(12, 16, 0), Checks.FINISHED);
        x.next();
        x.work(0, 0);
        Checks.due("promise 3: RUNNING before NONE", x.add(0, 0, 0), Checks.RUNNING);
        x.run(0);
        Checks.due("promise 3: FINISHED before NONE", x.add(0, 0, 0), Checks.FINISHED);
    }

    private static void promise4Undo() {
        BlockExecutor x = new BlockExecutor(2);
        Checks.due("promise 4: undo() of nothing", x.undo(), Checks.NONE);
        Checks.transaction(x, Checks.SET, 0, 0, 1, Checks.SET, 0, 0, 2, Checks.SET, 0, 0, 3);
        x.begin();
        Checks.due("promise 4: undo() of an empty one tells of the one before", x.undo(), 3);
        Checks.due("promise 4: transactions()", x.transactions(), 1);
        Checks.due("promise 4: undo() of an instruction", x.undo(), 2);
        Checks.due("promise 4: undo() of an instruction", x.undo(), 1);
        Checks.due("promise 4: undo() of the last instruction", x.undo(), 0);
        Checks.due("promise 4: the transaction stays", x.transactions(), 1);
        Checks.due("promise 4: undo() of the last transaction", x.undo(), 0);
        Checks.due("promise 4: transactions()", x.transactions(), 0);
        Checks.due("promise 4: undo() of nothing", x.undo(), Checks.NONE);
        Checks.due("promise 4: begin() after undo()", x.begin(), 0);
        Checks.due("promise 4: add after undo()", x.add(0, 0, 0), 0);
    }

    private static void promise4UndoneIsNotCarriedOut() {
        BlockExecutor x = new BlockExecutor(3);
        Checks.transaction(x, Checks.SET, 0, 0, 7, Checks.STORE, 0, 0, 1, Checks.STORE, 0, 0, 2);
        x.undo();
        Checks.transaction(x, Checks.SET, 0, 0, 9);
        x.undo();
        x.undo();
        Checks.due("promise 4: position after undo", x.add(Checks.STORE, 0, 4), 2);
        x.begin();
        Checks.due("promise 4: a transaction begun anew is empty", x.add(Checks.STORE, 0, 5), 0);
        Checks.due("promise 4: run(5)", x.run(5), 2);
        Checks.dueCells("promise 4", x, 0, 7, 0, 0, 7);
        Checks.due("promise 4: stored(1)", x.stored(1), 1 << 5);
    }

    private static void promise5Poke() {
        BlockExecutor x = new BlockExecutor(2);
        for (int i = 0; i < 16; i++) {
            Checks.due("promise 5: poke", x.poke(i, 100 + i), 0);
        }
        Checks.due("promise 5: poke(-1)", x.poke(-1, 5), Checks.BAD);
        Checks.due("promise 5: poke(16)", x.poke(16, 5), Checks.BAD);
        Checks.due("promise 5: poke(least)", x.poke(Integer.MIN_VALUE, 5), Checks.BAD);
        Checks.due("promise 5: poke(0, least)", x.poke(0, Integer.MIN_VALUE), 0);
        Checks.dueCells("promise 5", x, Integer.MIN_VALUE, 101, 102, 103, 104, 105, 106, 107, 108,
                109, 110, 111, 112, 113, 114, 115);
        Checks.transaction(x, Checks.LOAD, 0, 0, 3, Checks.STORE, 0, 0, 0, Checks.PUT, 0, 0, 0);
        x.work(3, 2);
        Checks.due("promise 5: poke while it runs", x.poke(3, 1), Checks.RUNNING);
        Checks.due("promise 5: RUNNING before BAD", x.poke(16, 1), Checks.RUNNING);
        x.run(1);
        Checks.due("promise 5: what was poked is seen", x.out(0, 0), 103);
        Checks.due("promise 5: poke when finished", x.poke(3, 77), 0);
        Checks.due("promise 5: BAD when finished", x.poke(16, 77), Checks.BAD);
        Checks.due("promise 5: cell(3)", x.cell(3), 77);
        Checks.due("promise 5: still finished", x.phase(), 2);
        Checks.due("promise 5: out stays", x.out(0, 0), 103);
        Checks.due("promise 5: faults after poke", x.faults(), 0);
    }

    private static void promise9Next() {
        BlockExecutor x = new BlockExecutor(4);
        Checks.due("promise 9: next() on a new object", x.next(), 0);
        Checks.transaction(x, Checks.SET, 0, 0, 5, Checks.STORE, 0, 0, 0, Checks.PUT, 0, 0, 0);
        Checks.due("promise 9: next() while built", x.next(), 0);
        Checks.due("promise 9: the built block is gone", x.transactions(), 0);
        Checks.due("promise 9: phase()", x.phase(), 0);
        Checks.dueCells("promise 9: nothing was carried out", x);
        Checks.transaction(x, Checks.SET, 0, 0, 6, Checks.STORE, 0, 0, 0, Checks.PUT, 0, 0, 0);
        x.work(1, 3);
        Checks.due("promise 9: next() while it runs", x.next(), Checks.RUNNING);
        Checks.due("promise 9: phase()", x.phase(), 1);
        x.run(2);
        Checks.due("promise 9: next() when finished", x.next(), 0);
        Checks.due("promise 9: phase()", x.phase(), 0);
        Checks.due("promise 9: transactions()", x.transactions(), 0);
        Checks.dueCells("promise 9: the store stays", x, 6);
        Checks.due("promise 9: result(0)", x.result(0), Checks.BAD);
        Checks.due("promise 9: begin()", x.begin(), 0);
        Checks.due("promise 9: result(0)", x.result(0), Checks.NONE);
        Checks.due("promise 9: out(0, 0)", x.out(0, 0), 0);
        Checks.due("promise 9: faults()", x.faults(), 0);
        x.add(Checks.LOAD, 4, 0);
        x.add(Checks.ADD, 5, 0);
        x.add(Checks.STORE, 4, 1);
        Checks.due("promise 9: run(3)", x.run(3), 1);
        Checks.dueCells("promise 9: on the store as it was", x, 6, 12);
        Checks.due("promise 9: outs(0)", x.outs(0), 0);
        Checks.due("promise 9: stored(0)", x.stored(0), 2);
    }

    private static void promise12Transactions() {
        BlockExecutor x = new BlockExecutor(4);
        for (int t = 0; t < 8; t++) {
            Checks.due("promise 12: transactions()", x.transactions(), t);
            x.begin();
        }
        x.undo();
        Checks.due("promise 12: after undo", x.transactions(), 7);
        x.work(3, 4);
        Checks.due("promise 12: while it runs", x.transactions(), 7);
        x.run(3);
        Checks.due("promise 12: when finished", x.transactions(), 7);
    }

    private static void refusedWhileRunning() {
        BlockExecutor x = new BlockExecutor(4);
        x.poke(2, 9);
        x.work(0, 0);
        Checks.due("promise 7: begun by no step", x.phase(), 1);
        Checks.due("promise 2: begin() while it runs", x.begin(), Checks.RUNNING);
        Checks.due("promise 3: add while it runs", x.add(0, 0, 0), Checks.RUNNING);
        Checks.due("promise 4: undo() while it runs", x.undo(), Checks.RUNNING);
        Checks.due("promise 5: poke while it runs", x.poke(2, 0), Checks.RUNNING);
        Checks.due("promise 9: next() while it runs", x.next(), Checks.RUNNING);
        Checks.due("promise 12: transactions()", x.transactions(), 0);
        Checks.dueCells("refused while it runs", x, 0, 0, 9);
        Checks.due("promise 6: run(0) of an empty block", x.run(0), 0);
        Checks.due("promise 8: phase()", x.phase(), 2);
    }

    private static void refusedWhenFinished() {
        BlockExecutor x = new BlockExecutor(4);
        Checks.transaction(x, Checks.PUT, 0, 0, 0);
        x.run(9);
        Checks.due("promise 2: begin() when finished", x.begin(), Checks.FINISHED);
        Checks.due("promise 3: add when finished", x.add(0, 0, 0), Checks.FINISHED);
        Checks.due("promise 4: undo() when finished", x.undo(), Checks.FINISHED);
        Checks.due("promise 6: run when finished", x.run(9), Checks.FINISHED);
        Checks.due("promise 7: work when finished", x.work(9, 9), Checks.FINISHED);
        Checks.due("promise 12: transactions()", x.transactions(), 1);
        Checks.due("promise 14: outs(0)", x.outs(0), 1);
        Checks.due("promise 8: phase()", x.phase(), 2);
    }
}
