/** The twelve instructions, each by what a transaction puts out and stores (promises 6 and 13 to 16). */
public final class InstructionsTest {
    private static final int MAX = Integer.MAX_VALUE;
    private static final int MIN = Integer.MIN_VALUE;

    public static void main(String[] args) {
        registersBeginAtZero();
        arithmetic();
        cellsByNumber();
        cellsByRegister();
        skip();
        need();
        stop();
        ownStoresAreSeen();
        Checks.end();
    }

    private static BlockExecutor ran(int... code) {
        BlockExecutor x = new BlockExecutor(3);
        for (int i = 0; i < 16; i++) {
            x.poke(i, 100 + i);
        }
        Checks.transaction(x, code);
        x.run(1);
        return x;
    }

    private static void dueOuts(String what, BlockExecutor x, int... outs) {
        Checks.due(what + ": result(0)", x.result(0), 1);
        Checks.due(what + ": outs(0)", x.outs(0), outs.length);
        for (int k = 0; k < outs.length; k++) {
            Checks.due(what + ": out(0, " + k + ")", x.out(0, k), outs[k]);
        }
    }

    private static void registersBeginAtZero() {
        BlockExecutor x = new BlockExecutor(1);
        for (int t = 0; t < 3; t++) {
            Checks.transaction(x, Checks.PUT, 0, 0, 0, Checks.PUT, 1, 0, 0, Checks.PUT, 2, 0, 0,
                    Checks.PUT, 3, 0, 0, Checks.SET, 0, 0, 1, Checks.SET, 1, 0, 2,
                    Checks.SET, 2, 0, 3, Checks.SET, 3, 0, 4);
        }
        x.run(0);
        for (int t = 0; t < 3; t++) {
            for (int k = 0; k < 4; k++) {
                Checks.due("a register at first", x.out(t, k), 0);
            }
        }
    }

    private static void arithmetic() {
        dueOuts("SET", ran(Checks.SET, 2, 1, MIN, Checks.PUT, 2, 0, 0, Checks.PUT, 1, 0, 0), MIN, 0);
        dueOuts("ADD", ran(Checks.SET, 1, 0, 5, Checks.SET, 2, 0, 7, Checks.ADD, 1, 2, 99,
                Checks.PUT, 1, 0, 0, Checks.PUT, 2, 0, 0), 12, 7);
        dueOuts("ADD wraps", ran(Checks.SET, 1, 0, MAX, Checks.SET, 2, 0, 1, Checks.ADD, 1, 2, 0,
                Checks.PUT, 1, 0, 0), MIN);
        dueOuts("ADD to itself", ran(Checks.SET, 3, 0, 5, Checks.ADD, 3, 3, 0,
                Checks.PUT, 3, 0, 0), 10);
        dueOuts("SUB", ran(Checks.SET, 1, 0, 5, Checks.SET, 2, 0, 7, Checks.SUB, 1, 2, 99,
                Checks.PUT, 1, 0, 0, Checks.PUT, 2, 0, 0), -2, 7);
        dueOuts("SUB wraps", ran(Checks.SET, 1, 0, MIN, Checks.SET, 2, 0, 1, Checks.SUB, 1, 2, 0,
                Checks.PUT, 1, 0, 0), MAX);
        dueOuts("MUL", ran(Checks.SET, 1, 0, -5, Checks.SET, 2, 0, 7, Checks.MUL, 1, 2, 99,
                Checks.PUT, 1, 0, 0, Checks.PUT, 2, 0, 0), -35, 7);
        dueOuts("MUL wraps", ran(Checks.SET, 1, 0, 65537, Checks.MUL, 1, 1, 0,
                Checks.PUT, 1, 0, 0), 131073);
    }

    private static void cellsByNumber() {
        dueOuts("LOAD", ran(Checks.LOAD, 1, 3, 15, Checks.PUT, 1, 0, 0), 115);
        dueOuts("LOAD masks n", ran(Checks.LOAD, 1, 0, 16, Checks.PUT, 1, 0, 0), 100);
        dueOuts("LOAD masks n below 0", ran(Checks.LOAD, 1, 0, -1, Checks.PUT, 1, 0, 0), 115);
        BlockExecutor x = ran(Checks.SET, 1, 0, 7, Checks.STORE, 1, 2, 15, Checks.STORE, 1, 2, 16,
                Checks.STORE, 1, 2, -2);
        Checks.due("STORE: cell(15)", x.cell(15), 7);
        Checks.due("STORE masks n", x.cell(0), 7);
        Checks.due("STORE masks n below 0", x.cell(14), 7);
        Checks.due("STORE: stored(0)", x.stored(0), 0xC001);
    }

    private static void cellsByRegister() {
        dueOuts("REACH", ran(Checks.SET, 1, 0, 4, Checks.REACH, 2, 1, 9, Checks.PUT, 2, 0, 0), 104);
        dueOuts("REACH masks", ran(Checks.SET, 1, 0, -3, Checks.REACH, 1, 1, 9,
                Checks.PUT, 1, 0, 0), 113);
        dueOuts("REACH masks above", ran(Checks.SET, 1, 0, 33, Checks.REACH, 1, 1, 9,
                Checks.PUT, 1, 0, 0), 101);
        BlockExecutor x = ran(Checks.SET, 1, 0, 7, Checks.SET, 2, 0, -1, Checks.PLACE, 1, 2, 3,
                Checks.SET, 2, 0, 18, Checks.PLACE, 1, 2, 3, Checks.PLACE, 2, 3, 3);
        Checks.due("PLACE masks below 0", x.cell(15), 7);
        Checks.due("PLACE masks above", x.cell(2), 7);
        Checks.due("PLACE: cell(0)", x.cell(0), 18);
        Checks.due("PLACE does not use n", x.cell(3), 103);
        Checks.due("PLACE: stored(0)", x.stored(0), 0x8005);
    }

    private static void skip() {
        dueOuts("SKIP, less", ran(Checks.SET, 1, 0, 1, Checks.SKIP, 0, 1, 0, Checks.PUT, 0, 0, 0,
                Checks.PUT, 1, 0, 0), 1);
        dueOuts("SKIP, equal", ran(Checks.SKIP, 0, 1, 0, Checks.PUT, 0, 0, 0,
                Checks.PUT, 1, 0, 0), 0, 0);
        dueOuts("SKIP, greater", ran(Checks.SET, 0, 0, 1, Checks.SKIP, 0, 1, 0, Checks.PUT, 0, 0, 0,
                Checks.PUT, 1, 0, 0), 1, 0);
        dueOuts("SKIP compares with sign, without wrapping", ran(Checks.SET, 0, 0, MIN,
                Checks.SET, 1, 0, MAX, Checks.SKIP, 0, 1, 0, Checks.PUT, 0, 0, 0,
                Checks.PUT, 1, 0, 0), MAX);
        dueOuts("SKIP at the end", ran(Checks.SET, 1, 0, 1, Checks.PUT, 1, 0, 0,
                Checks.SKIP, 0, 1, 0), 1);
        dueOuts("SKIP over the last", ran(Checks.SET, 1, 0, 1, Checks.PUT, 1, 0, 0,
                Checks.SKIP, 0, 1, 0, Checks.PUT, 0, 0, 0), 1);
        skipAtTheTwelfthPosition();
    }

    private static void skipAtTheTwelfthPosition() {
        BlockExecutor x = new BlockExecutor(2);
        x.begin();
        x.add(Checks.SET, Checks.places(1, 0), 1);
        for (int i = 0; i < 10; i++) {
            x.add(Checks.PUT, Checks.places(1, 0), 0);
        }
        x.add(Checks.SKIP, Checks.places(0, 1), 0);
        Checks.transaction(x, Checks.PUT, 0, 0, 0, Checks.PUT, 0, 0, 0);
        Checks.due("SKIP at position 11: run(0)", x.run(0), 2);
        Checks.due("SKIP at position 11: outs(0)", x.outs(0), 10);
        Checks.due("SKIP at position 11: outs(1)", x.outs(1), 2);
    }

    private static void need() {
        dueOuts("NEED, equal", ran(Checks.SET, 1, 0, 5, Checks.NEED, 1, 0, 5,
                Checks.PUT, 1, 0, 0), 5);
        dueOuts("NEED, greater", ran(Checks.SET, 1, 0, MAX, Checks.NEED, 1, 0, MIN,
                Checks.PUT, 1, 0, 0), MAX);
        BlockExecutor x = ran(Checks.SET, 1, 0, 5, Checks.STORE, 1, 0, 1, Checks.PUT, 1, 0, 0,
                Checks.NEED, 1, 0, 6, Checks.STORE, 1, 0, 2, Checks.PUT, 1, 0, 0);
        Checks.due("NEED, less: result(0)", x.result(0), 0);
        Checks.due("NEED, less: outs(0)", x.outs(0), 0);
        Checks.due("NEED, less: out(0, 0)", x.out(0, 0), 0);
        Checks.due("NEED, less: stored(0)", x.stored(0), 0);
        Checks.due("NEED, less: cell(1)", x.cell(1), 101);
        Checks.due("NEED, less: cell(2)", x.cell(2), 102);
        BlockExecutor y = ran(Checks.SET, 1, 0, MIN, Checks.NEED, 1, 0, MAX);
        Checks.due("NEED compares without wrapping", y.result(0), 0);
    }

    private static void stop() {
        BlockExecutor x = ran(Checks.PUT, 0, 0, 0, Checks.STORE, 0, 0, 4, Checks.STOP, 1, 2, 3,
                Checks.PUT, 0, 0, 0, Checks.NEED, 0, 0, 1);
        dueOuts("STOP", x, 0);
        Checks.due("STOP: cell(4)", x.cell(4), 0);
        Checks.due("STOP: stored(0)", x.stored(0), 16);
    }

    private static void ownStoresAreSeen() {
        BlockExecutor x = ran(Checks.LOAD, 0, 0, 6, Checks.SET, 1, 0, 9, Checks.STORE, 1, 0, 6,
                Checks.LOAD, 2, 0, 6, Checks.SET, 3, 0, 6, Checks.PLACE, 0, 3, 0,
                Checks.REACH, 3, 3, 0, Checks.PUT, 0, 0, 0, Checks.PUT, 2, 0, 0,
                Checks.PUT, 3, 0, 0);
        dueOuts("own stores", x, 106, 9, 106);
        Checks.due("stored, though the value is the old one", x.stored(0), 64);
        Checks.due("own stores: cell(6)", x.cell(6), 106);
    }
}
