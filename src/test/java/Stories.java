import java.util.List;
import java.util.function.Consumer;
import java.util.function.ToIntFunction;

/** Ways an object can have come to be as it is, and calls that can be made on it then. */
final class Stories {
    private static final int MAX = Checks.MAX;
    private static final int MIN = Checks.MIN;

    /** Worker counts: the usual ones, the edges of an int, and those around powers of two. */
    static final int[] WORKERS = {1, 2, 3, 4, 5, 6, 7, 8, 9, 0, -1, -8, 15, 16, 17, 31, 32, 33, 63, 64,
        100, 127, 128, 255, 256, 257, 1000, 65535, 65536, 1 << 30, MAX - 1, MAX, MIN, MIN + 1};

    /** Schedules: the edges of an int, few bits, many bits. */
    static final int[] SCHEDULES = {0, 1, 2, 3, 7, 8, -1, -2, -8, MIN, MIN + 1, MAX, MAX - 1,
        012345670, 0x12345678, 0x6DB6DB6D, 0x55555555, 0xAAAAAAAA, 0x0F0F0F0F, 1 << 30, -86613};

    /** The states a block can be in, with the edges of each: empty, full, poked, begun anew. */
    static final List<Consumer<Twin>> STATES = List.of(
            x -> { },
            Twin::begin,
            Stories::someBuilt,
            Stories::fullBuilt,
            x -> {
                fullBuilt(x);
                x.undo();
            },
            x -> x.work(5, 0),
            x -> {
                someBuilt(x);
                x.work(-1, MIN);
            },
            x -> {
                someBuilt(x);
                x.work(77, 7);
            },
            x -> {
                someBuilt(x);
                x.work(-3, MAX);
            },
            x -> {
                fullBuilt(x);
                x.work(0x12345678, 25);
            },
            x -> x.run(0),
            x -> {
                someBuilt(x);
                x.run(8);
            },
            x -> {
                fullBuilt(x);
                x.work(1, 30);
                x.run(-1);
            },
            x -> {
                someBuilt(x);
                x.run(9);
                x.poke(0, 77);
                x.poke(2, 78);
            },
            x -> {
                fullBuilt(x);
                x.run(10);
                x.next();
            },
            x -> {
                someBuilt(x);
                x.run(11);
                x.next();
                x.transaction("LOAD 0 2", "PUT 0");
            });

    /** Calls that change something or are refused: with good arguments and with wrong ones. */
    static final List<ToIntFunction<Twin>> CHANGES = List.of(
            Twin::begin, Twin::undo, Twin::next,
            x -> x.add(0, 0, 1), x -> x.add(11, 15, MIN), x -> x.add(-1, 0, 0),
            x -> x.add(12, 0, 0), x -> x.add(0, -1, 0), x -> x.add(0, 16, 0),
            x -> x.add(MIN, 3, 1), x -> x.add(MAX, 3, 1), x -> x.add(4, MIN, 1),
            x -> x.add(4, MAX, 1), x -> x.add(-1, 16, 5),
            x -> x.poke(0, 5), x -> x.poke(15, -5), x -> x.poke(-1, 6), x -> x.poke(16, 7),
            x -> x.poke(MIN, 8), x -> x.poke(MAX, 9),
            x -> x.run(0), x -> x.run(-1), x -> x.work(0, 0), x -> x.work(-1, 50),
            x -> x.work(3, MIN), x -> x.work(4, MAX));

    private Stories() {
    }

    /** Transactions that depend on each other; one of them fails. */
    static void someBuilt(Twin x) {
        x.poke(2, 6);
        x.poke(15, -4);
        x.transaction("LOAD 0 2", "ADD 0 0", "STORE 0 3", "PUT 0");
        x.transaction("LOAD 1 3", "SUB 1 2", "STORE 1 2", "NEED 1 13");
        x.transaction();
        x.transaction("LOAD 3 15", "LOAD 2 3", "MUL 2 3", "PLACE 2 3", "PUT 2", "PUT 3");
    }

    /** Eight transactions of twelve instructions, each on the cell that the one before has stored. */
    static void fullBuilt(Twin x) {
        x.poke(0, 3);
        for (int t = 0; t < 8; t++) {
            x.transaction("LOAD 0 " + t, "SET 1 " + (t + 1), "ADD 0 1", "PUT 0", "STORE 0 " + (t + 1),
                    "REACH 2 1", "PUT 2", "SKIP 0 1", "STORE 0 15", "LOAD 3 15", "PUT 3",
                    "NEED 0 " + (t == 3 ? 100 : 0));
        }
    }

    /** Goes on from any state to a block that is finished, and to one after it. */
    static void goOn(Twin x) {
        if (x.modelPhase() == 0) {
            x.begin();
            x.add(Code.PUT, 0, 0);
            x.undo();
            x.add(Code.SET, 4, 8);
        }
        if (x.modelPhase() < 2) {
            x.run(0x2468ACE);
        }
        x.askAll();
        x.next();
        x.transaction("LOAD 0 2", "PUT 0", "SET 1 1", "ADD 0 1", "STORE 0 2");
        x.transaction("LOAD 0 2", "PUT 0");
        x.run(-5);
        x.result(0);
        x.out(0, 0);
        x.out(1, 0);
        x.stored(0);
        x.digest();
    }
}
