/** Terms: the sentences on the twelve operations and on how a transaction ends. */
final class InstructionSentences {
    private static final int MAX = Checks.MAX;
    private static final int MIN = Checks.MIN;

    private InstructionSentences() {
    }

    static void tell(Sentences s) {
        s.part("Terms");
        s.test("0 SET register a becomes n", InstructionSentences::set);
        s.test("1 ADD register a becomes register a + register b (wrapping)",
                InstructionSentences::add);
        s.test("2 SUB register a becomes register a - register b (wrapping)",
                InstructionSentences::sub);
        s.test("3 LOAD register a becomes cell n & 15", InstructionSentences::load);
        s.test("4 STORE cell n & 15 becomes register a", InstructionSentences::store);
        s.test("5 MUL register a becomes register a * register b (wrapping)",
                InstructionSentences::mul);
        s.test("6 SKIP if register a is less than register b", InstructionSentences::skipIfLess);
        s.test("the next instruction is passed over", InstructionSentences::skipOne);
        s.test("7 NEED if register a is less than n, the transaction FAILS",
                InstructionSentences::need);
        s.test("8 PUT register a is put out", InstructionSentences::put);
        s.test("9 REACH register a becomes cell (register b) & 15", InstructionSentences::reach);
        s.test("10 PLACE cell (register b) & 15 becomes register a", InstructionSentences::place);
        s.test("11 STOP the transaction ends", InstructionSentences::stop);
        s.test("After an instruction the next position follows",
                InstructionSentences::nextPosition);
        s.test("a position without instruction ends the transaction",
                InstructionSentences::positionWithoutInstruction);
        s.test("A transaction that ends without having failed is DONE: what it stored stays.",
                InstructionSentences::done);
        s.test("If it fails, none of its stores stay", InstructionSentences::failedStores);
        s.test("and what it put out counts as nothing.", InstructionSentences::failedOuts);
    }

    /** Cell i is 100 + i, then a transaction is carried out. */
    private static BlockExecutor ran(String... lines) {
        BlockExecutor x = new BlockExecutor(3);
        for (int i = 0; i < 16; i++) {
            x.poke(i, 100 + i);
        }
        Checks.transaction(x, lines);
        x.run(1);
        return x;
    }

    private static void dueOuts(String what, BlockExecutor x, int... outs) {
        Checks.dueOuts(what, x, 0, outs);
    }

    private static void set() {
        for (int n : new int[] {MIN, -1, 0, 1, 12, 16, MAX}) {
            dueOuts("SET 0 " + n, ran("SET 0 9", "SET 0 " + n, "PUT 0"), n);
            dueOuts("SET 3 " + n, ran("SET 3 " + n, "PUT 3", "PUT 2"), n, 0);
        }
    }

    private static void two(String operation, int a, int b, int want) {
        String p = operation + " of " + a + " and " + b;
        dueOuts(p, ran("SET 1 " + a, "SET 2 " + b, operation + " 1 2", "PUT 1", "PUT 2", "PUT 0"),
                want, b, 0);
        dueOuts(p + ", other registers", ran("SET 3 " + a, "SET 0 " + b, operation + " 3 0",
                "PUT 3", "PUT 0", "PUT 1"), want, b, 0);
    }

    private static void itself(String operation, int a, int want) {
        dueOuts(operation + " of " + a + " with itself",
                ran("SET 2 " + a, operation + " 2 2", "PUT 2"), want);
    }

    private static void add() {
        two("ADD", 5, 7, 12);
        two("ADD", 0, 0, 0);
        two("ADD", MAX, 0, MAX);
        two("ADD", MAX, 1, MIN);
        two("ADD", 1, MAX, MIN);
        two("ADD", MAX, MAX, -2);
        two("ADD", MIN, -1, MAX);
        two("ADD", MIN, MIN, 0);
        two("ADD", MIN, MAX, -1);
        itself("ADD", 5, 10);
        itself("ADD", 1 << 30, MIN);
        itself("ADD", MIN, 0);
    }

    private static void sub() {
        two("SUB", 5, 7, -2);
        two("SUB", MIN, 1, MAX);
        two("SUB", MAX, -1, MIN);
        two("SUB", 0, MIN, MIN);
        two("SUB", -1, MIN, MAX);
        two("SUB", MIN, MAX, 1);
        two("SUB", MAX, MIN, -1);
        two("SUB", MIN, MIN, 0);
        itself("SUB", 5, 0);
        itself("SUB", MIN, 0);
    }

    private static void mul() {
        two("MUL", -5, 7, -35);
        two("MUL", 7, 0, 0);
        two("MUL", MIN, -1, MIN);
        two("MUL", MIN, 2, 0);
        two("MUL", MAX, 2, -2);
        two("MUL", MAX, MAX, 1);
        two("MUL", MAX, MIN, MIN);
        two("MUL", 65536, 65536, 0);
        two("MUL", 46341, 46341, -2147479015);
        two("MUL", 123456789, 987654321, -67153019);
        itself("MUL", -3, 9);
        itself("MUL", 65537, 131073);
    }

    private static void load() {
        for (int n = -40; n < 40; n++) {
            dueOuts("LOAD 1 " + n, ran("LOAD 1 " + n, "PUT 1"), 100 + Math.floorMod(n, 16));
        }
        dueOuts("LOAD, greatest n", ran("LOAD 1 " + MAX, "PUT 1"), 115);
        dueOuts("LOAD, least n", ran("LOAD 1 " + MIN, "PUT 1"), 100);
        dueOuts("LOAD, n = 256", ran("LOAD 3 256", "PUT 3"), 100);
        dueOuts("LOAD, n = -257", ran("LOAD 0 -257", "PUT 0"), 115);
        BlockExecutor x = ran("LOAD 2 5");
        Checks.due("LOAD stores nothing: stored(0)", x.stored(0), 0);
        Checks.due("LOAD leaves the cell: cell(5)", x.cell(5), 105);
    }

    private static void stores(String what, BlockExecutor x, int cell, int value) {
        Checks.due(what + ": stored(0)", x.stored(0), 1 << cell);
        for (int i = 0; i < 16; i++) {
            Checks.due(what + ": cell(" + i + ")", x.cell(i), i == cell ? value : 100 + i);
        }
    }

    private static void store() {
        for (int n = -20; n < 36; n++) {
            stores("STORE 1 " + n, ran("SET 1 7", "STORE 1 " + n), Math.floorMod(n, 16), 7);
        }
        stores("STORE, greatest n", ran("SET 3 -7", "STORE 3 " + MAX), 15, -7);
        stores("STORE, least n", ran("SET 0 -7", "STORE 0 " + MIN), 0, -7);
        stores("STORE of the least int", ran("SET 2 " + MIN, "STORE 2 4"), 4, MIN);
        stores("STORE of the greatest int", ran("SET 2 " + MAX, "STORE 2 4"), 4, MAX);
        stores("STORE twice: the last one stays", ran("SET 2 1", "STORE 2 4", "STORE 3 20"), 4, 0);
        dueOuts("STORE leaves the register", ran("SET 2 8", "STORE 2 4", "PUT 2"), 8);
    }

    private static void reach() {
        for (int b = -20; b < 36; b++) {
            int want = 100 + Math.floorMod(b, 16);
            dueOuts("REACH by " + b, ran("SET 1 " + b, "REACH 2 1", "PUT 2", "PUT 1"), want, b);
            dueOuts("REACH into itself by " + b, ran("SET 1 " + b, "REACH 1 1", "PUT 1"), want);
        }
        dueOuts("REACH by the greatest int", ran("SET 3 " + MAX, "REACH 0 3", "PUT 0"), 115);
        dueOuts("REACH by the least int", ran("SET 0 " + MIN, "REACH 3 0", "PUT 3"), 100);
    }

    private static void place() {
        for (int b = -20; b < 36; b++) {
            int cell = Math.floorMod(b, 16);
            stores("PLACE by " + b, ran("SET 1 7", "SET 2 " + b, "PLACE 1 2"), cell, 7);
            stores("PLACE of itself by " + b, ran("SET 1 " + b, "PLACE 1 1"), cell, b);
        }
        stores("PLACE by the greatest int", ran("SET 0 7", "SET 3 " + MAX, "PLACE 0 3"), 15, 7);
        stores("PLACE by the least int", ran("SET 3 7", "SET 0 " + MIN, "PLACE 3 0"), 0, 7);
        dueOuts("PLACE leaves the registers", ran("SET 1 7", "SET 2 18", "PLACE 1 2", "PUT 1",
                "PUT 2"), 7, 18);
    }

    private static void skips(int a, int b, boolean passes) {
        BlockExecutor x = ran("SET 1 " + a, "SET 2 " + b, "SKIP 1 2", "PUT 1", "PUT 2");
        if (passes) {
            dueOuts("SKIP with " + a + " and " + b, x, b);
        } else {
            dueOuts("SKIP with " + a + " and " + b, x, a, b);
        }
    }

    private static void skipIfLess() {
        skips(0, 1, true);
        skips(0, 0, false);
        skips(1, 0, false);
        skips(-1, 0, true);
        skips(0, -1, false);
        skips(MIN, MAX, true);
        skips(MAX, MIN, false);
        skips(MIN, MIN + 1, true);
        skips(MIN, MIN, false);
        skips(MAX, MAX, false);
        skips(MAX - 1, MAX, true);
        skips(-2, MAX, true);
        skips(MIN, 1, true);
        dueOuts("SKIP with itself", ran("SET 1 5", "SKIP 1 1", "PUT 1", "PUT 0"), 5, 0);
    }

    private static void skipOne() {
        dueOuts("one, not two", ran("SET 1 1", "SKIP 0 1", "PUT 0", "PUT 1", "PUT 1"), 1, 1);
        dueOuts("a SKIP is passed over", ran("SET 1 1", "SKIP 0 1", "SKIP 0 1", "PUT 0", "PUT 1"),
                0, 1);
        dueOuts("a NEED is passed over", ran("SET 1 1", "SKIP 0 1", "NEED 0 1", "PUT 1"), 1);
        dueOuts("a STOP is passed over", ran("SET 1 1", "SKIP 0 1", "STOP", "PUT 1"), 1);
        BlockExecutor x = ran("SET 1 1", "SKIP 0 1", "STORE 1 4", "PUT 1");
        Checks.due("a STORE is passed over: stored(0)", x.stored(0), 0);
        Checks.due("a STORE is passed over: cell(4)", x.cell(4), 104);
        dueOuts("two SKIPs", ran("SET 1 1", "SKIP 0 1", "PUT 0", "SKIP 0 1", "PUT 0", "PUT 1"), 1);
    }

    private static void needs(int a, int n, boolean fails) {
        BlockExecutor x = ran("SET 1 " + a, "NEED 1 " + n, "PUT 1");
        if (fails) {
            Checks.dueFailed("NEED of " + n + " with " + a, x, 0);
        } else {
            dueOuts("NEED of " + n + " with " + a, x, a);
        }
    }

    private static void need() {
        needs(5, 5, false);
        needs(5, 6, true);
        needs(5, 4, false);
        needs(0, 0, false);
        needs(0, 1, true);
        needs(-1, 0, true);
        needs(0, -1, false);
        needs(MIN, MIN, false);
        needs(MIN, MIN + 1, true);
        needs(MIN, MAX, true);
        needs(MIN, 1, true);
        needs(MAX, MAX, false);
        needs(MAX - 1, MAX, true);
        needs(MAX, MIN, false);
        needs(-2, MAX, true);
        dueOuts("a register that is 0", ran("NEED 3 0", "PUT 3"), 0);
        Checks.dueFailed("NEED alone", ran("NEED 3 1"), 0);
        Checks.dueFailed("nothing after it mends it", ran("NEED 3 1", "SET 3 1", "NEED 3 1", "STOP"),
                0);
    }

    private static void put() {
        dueOuts("PUT, none", ran("SET 1 5"));
        dueOuts("PUT, one", ran("SET 1 5", "PUT 1"), 5);
        dueOuts("PUT, in their order", ran("SET 1 " + MIN, "PUT 1", "PUT 0", "SET 1 " + MAX, "PUT 1",
                "PUT 1"), MIN, 0, MAX, MAX);
        dueOuts("PUT, twelve", ran("PUT 0", "PUT 1", "PUT 2", "PUT 3", "PUT 0", "PUT 1", "PUT 2",
                "PUT 3", "PUT 0", "PUT 1", "PUT 2", "PUT 3"), 0, 0, 0, 0, 0, 0, 0, 0, 0, 0, 0, 0);
        dueOuts("PUT at the last position", ran("LOAD 0 1", "PUT 0", "LOAD 0 2", "PUT 0", "LOAD 0 3",
                "PUT 0", "LOAD 0 4", "PUT 0", "LOAD 0 5", "PUT 0", "LOAD 0 6", "PUT 0"), 101, 102,
                103, 104, 105, 106);
        dueOuts("PUT keeps the value of that time", ran("SET 1 5", "PUT 1", "SET 1 6"), 5);
    }

    private static void stop() {
        dueOuts("STOP at the start", ran("STOP", "PUT 0", "STORE 0 1", "NEED 0 1"));
        dueOuts("STOP alone", ran("STOP"));
        dueOuts("STOP at the end", ran("PUT 0", "STOP"), 0);
        BlockExecutor x = ran("PUT 0", "STORE 0 4", "STOP", "PUT 0", "STORE 0 5", "NEED 0 1");
        dueOuts("STOP in between", x, 0);
        stores("STOP in between", x, 4, 0);
        x = ran("STOP", "STORE 0 4", "STORE 0 5");
        Checks.due("nothing is stored after STOP", x.stored(0), 0);
        Checks.due("nothing is stored after STOP: cell(4)", x.cell(4), 104);
        x = new BlockExecutor(2);
        Checks.transaction(x, "STOP");
        Checks.transaction(x, "SET 0 3", "PUT 0");
        Checks.due("STOP ends its own transaction only: run(0)", x.run(0), 2);
        Checks.dueOuts("STOP ends its own transaction only", x, 1, 3);
    }

    private static void nextPosition() {
        dueOuts("each in its order", ran("SET 1 1", "PUT 1", "SET 1 2", "PUT 1", "ADD 1 1", "PUT 1",
                "MUL 1 1", "PUT 1", "SUB 1 1", "PUT 1", "LOAD 1 1", "PUT 1"), 1, 2, 4, 16, 0, 101);
        dueOuts("after a SKIP that does not pass over", ran("SKIP 0 1", "SKIP 1 0", "PUT 2"), 0);
        dueOuts("after a NEED that holds", ran("NEED 0 0", "NEED 0 -1", "PUT 2"), 0);
    }

    private static void positionWithoutInstruction() {
        dueOuts("the first position: an empty transaction is done", ran());
        dueOuts("after the only instruction", ran("PUT 0"), 0);
        dueOuts("SKIP at the last position", ran("SET 1 1", "PUT 1", "SKIP 0 1"), 1);
        dueOuts("SKIP over the last position", ran("SET 1 1", "SKIP 0 1", "PUT 0"));
        dueOuts("SKIP at position 11", ran("SET 1 1", "PUT 1", "PUT 1", "PUT 1", "PUT 1", "PUT 1",
                "PUT 1", "PUT 1", "PUT 1", "PUT 1", "PUT 1", "SKIP 0 1"), 1, 1, 1, 1, 1, 1, 1, 1, 1,
                1);
        dueOuts("SKIP at position 10", ran("SET 1 1", "PUT 1", "PUT 1", "PUT 1", "PUT 1", "PUT 1",
                "PUT 1", "PUT 1", "PUT 1", "PUT 1", "SKIP 0 1", "PUT 0"), 1, 1, 1, 1, 1, 1, 1, 1, 1);
        theOneAfterIsLeftAlone();
        instructionsOfAnEarlierBlock();
    }

    private static void theOneAfterIsLeftAlone() {
        BlockExecutor x = new BlockExecutor(2);
        Checks.transaction(x, "SET 1 1", "STORE 1 0", "STORE 1 1", "STORE 1 2", "STORE 1 3",
                "STORE 1 4", "STORE 1 5", "STORE 1 6", "STORE 1 7", "PUT 1", "PUT 1", "SKIP 0 1");
        Checks.transaction(x, "PUT 0", "PUT 0");
        Checks.due("SKIP at position 11: run(0)", x.run(0), 2);
        Checks.dueOuts("SKIP at position 11", x, 0, 1, 1);
        Checks.dueOuts("the one after", x, 1, 0, 0);
    }

    private static void instructionsOfAnEarlierBlock() {
        BlockExecutor x = new BlockExecutor(2);
        Checks.transaction(x, "SET 0 1", "STORE 0 0", "STORE 0 1", "PUT 0");
        x.run(0);
        x.next();
        Checks.transaction(x, "SET 0 2", "STORE 0 0");
        Checks.due("a shorter one after a longer one: run(0)", x.run(0), 1);
        Checks.due("stored(0)", x.stored(0), 1);
        Checks.dueOuts("a shorter one after a longer one", x, 0);
        Checks.dueCells("a shorter one after a longer one", x, 2, 1);
    }

    private static void done() {
        BlockExecutor x = new BlockExecutor(3);
        Checks.transaction(x, "SET 0 1", "STORE 0 0", "STORE 0 15");
        Checks.transaction(x, "SET 0 2", "STORE 0 1", "STOP", "NEED 0 3");
        Checks.transaction(x);
        Checks.due("run(0)", x.run(0), 3);
        for (int t = 0; t < 3; t++) {
            Checks.due("result(" + t + ")", x.result(t), 1);
        }
        Checks.dueCells("what was stored", x, 1, 2, 0, 0, 0, 0, 0, 0, 0, 0, 0, 0, 0, 0, 0, 1);
        x.next();
        Checks.dueCells("in the next block", x, 1, 2, 0, 0, 0, 0, 0, 0, 0, 0, 0, 0, 0, 0, 0, 1);
    }

    private static void failedStores() {
        BlockExecutor x = new BlockExecutor(3);
        x.poke(0, 10);
        Checks.transaction(x, "SET 0 1", "STORE 0 1");
        Checks.transaction(x, "SET 0 2", "STORE 0 0", "STORE 0 1", "STORE 0 2", "STORE 0 15",
                "NEED 0 3");
        Checks.transaction(x, "LOAD 0 0", "LOAD 1 1", "LOAD 2 2", "PUT 0", "PUT 1", "PUT 2");
        Checks.transaction(x, "NEED 0 1", "SET 0 9", "STORE 0 3");
        Checks.due("run(0)", x.run(0), 2);
        Checks.dueFailed("it fails at its last position", x, 1);
        Checks.dueFailed("it fails at its first position", x, 3);
        Checks.dueOuts("the one after sees what was before", x, 2, 10, 1, 0);
        Checks.dueCells("the store", x, 10, 1);
        allFail();
    }

    private static void allFail() {
        BlockExecutor x = new BlockExecutor(8);
        for (int t = 0; t < 8; t++) {
            Checks.transaction(x, "SET 0 " + (t + 1), "STORE 0 " + t, "STORE 0 " + (15 - t), "PUT 0",
                    "NEED 0 " + (t + 2));
        }
        Checks.due("all fail: run(99)", x.run(99), 0);
        for (int t = 0; t < 8; t++) {
            Checks.dueFailed("all fail", x, t);
        }
        Checks.dueCells("all fail", x);
    }

    private static void failedOuts() {
        BlockExecutor x = new BlockExecutor(3);
        Checks.transaction(x, "SET 0 4", "PUT 0", "PUT 0", "PUT 0", "PUT 0", "PUT 0", "PUT 0",
                "PUT 0", "PUT 0", "PUT 0", "PUT 0", "NEED 0 5");
        Checks.transaction(x, "SET 0 4", "PUT 0", "NEED 0 5", "PUT 0");
        Checks.transaction(x, "SET 0 4", "PUT 0");
        Checks.due("run(0)", x.run(0), 1);
        Checks.dueFailed("after ten", x, 0);
        Checks.dueFailed("after one", x, 1);
        Checks.dueOuts("the one after", x, 2, 4);
    }
}
