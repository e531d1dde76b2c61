import java.util.HashSet;
import java.util.Set;

/** The sentences that hold though no answer shows whether they do: these tests look inside. */
final class UnseenSentences {
    private static final int MIN = Checks.MIN;
    private static final int MAX = Checks.MAX;

    // Eight transactions, each taken, carried out and settled twice.
    private static final int ENOUGH_STEPS = 8 * 2 * (1 + 12 + 1);

    private UnseenSentences() {
    }

    static void tell(Sentences s) {
        s.part("What it is");
        s.test("Carries out a block of small programs at the same time", UnseenSentences::allHalfway);
        s.part("Terms");
        s.test("Running the block (in steps, by several workers at the same time) carries it out",
                UnseenSentences::oneInstructionAStep);
        s.part("Promise 1");
        s.test("workers (any int) says how many work at the same time", UnseenSentences::asManyWork);
        s.part("Promise 6");
        s.test("and goes on with it to its end.", UnseenSentences::runGoesOn);
        s.test("schedule (any int) says who works when", UnseenSentences::scheduleSaysWho);
        s.part("Promise 7");
        s.test("and lets some steps of work be made.", UnseenSentences::stepsAreMade);
        s.test("and it is not finished by this call).", UnseenSentences::settledButNotFinished);
        s.part("Promise 17");
        s.test("How many faults a check of the versions that are kept finds",
                UnseenSentences::faultsAreFound);
        s.test("a check of the versions that are kept", UnseenSentences::faultsWhileItRuns);
    }

    /** Each transaction needs what the one before has stored. */
    private static BlockExecutor chain(int workers, int count) {
        BlockExecutor x = new BlockExecutor(workers);
        x.poke(0, 3);
        for (int t = 0; t < count; t++) {
            Checks.transaction(x, "LOAD 0 " + t, "SET 1 1", "ADD 0 1", "STORE 0 " + (t + 1), "PUT 0",
                    "SET 2 7");
        }
        return x;
    }

    /** Makes a step, and answers how many instructions of those in hand it has carried out. */
    private static int carriedOutByAStep(BlockExecutor x, int schedule) {
        Inside inside = new Inside(x);
        int[] held = inside.numbers("held").clone();
        int[] before = inside.numbers("position").clone();
        x.work(schedule, 1);
        int carriedOut = 0;
        for (int t : held) {
            carriedOut += t < 0 ? 0 : inside.numbers("position")[t] - before[t];
        }
        return carriedOut;
    }

    private static void allHalfway() {
        for (int workers = 1; workers <= 8; workers++) {
            int most = 0;
            for (int steps = 0; steps <= ENOUGH_STEPS; steps++) {
                BlockExecutor x = chain(workers, 8);
                x.work(0, steps);
                most = Math.max(most, new Inside(x).halfway());
            }
            Checks.due(workers + " workers: begun and not ended at the same time", most, workers);
        }
    }

    private static void oneInstructionAStep() {
        for (int schedule : Stories.SCHEDULES) {
            BlockExecutor x = chain(4, 8);
            x.work(schedule, 0);
            int sum = 0;
            for (int i = 0; i < ENOUGH_STEPS; i++) {
                int carriedOut = carriedOutByAStep(x, schedule * 31 + i);
                Checks.dueTrue("no step carries out more than one", carriedOut >= 0 && carriedOut <= 1);
                sum += carriedOut;
            }
            Checks.dueTrue("schedule " + schedule + ": each of the 48 is carried out", sum >= 48);
            Checks.due("schedule " + schedule + ": settled", new Inside(x).settled(), 8);
        }
    }

    private static void asManyWork() {
        for (int workers : Stories.WORKERS) {
            for (int schedule : Stories.SCHEDULES) {
                for (int count = 1; count <= 8; count++) {
                    asManyWork(workers, schedule, count);
                }
            }
        }
    }

    /** While a transaction waits, nobody goes on before each worker has one in hand. */
    private static void asManyWork(int workers, int schedule, int count) {
        String p = "workers " + workers + ", schedule " + schedule + ", " + count + " transactions: ";
        int due = Math.max(1, Math.min(8, workers));
        BlockExecutor x = chain(workers, count);
        Inside inside = new Inside(x);
        x.work(schedule, 0);
        int most = 0;
        for (int i = 0; i < ENOUGH_STEPS; i++) {
            boolean couldOneBegin = inside.waiting() > 0 && inside.inHand() < due;
            int carriedOut = carriedOutByAStep(x, schedule >>> (i % 30));
            Checks.dueTrue(p + "none goes on while another could begin",
                    !couldOneBegin || carriedOut == 0);
            most = Math.max(most, inside.inHand());
        }
        Checks.due(p + "in hand at the same time", most, Math.min(due, count));
        Checks.due(p + "settled", inside.settled(), count);
    }

    /** What work has carried out is not carried out again by run. */
    private static void runGoesOn() {
        BlockExecutor x = chain(3, 8);
        x.work(5, MAX);
        Inside inside = new Inside(x);
        int[] versions = inside.numbers("storedValues");
        int[] outs = inside.numbers("outValues");
        // A mark that only stays if the transaction is not carried out again.
        versions[7 * 16 + 8] = 1000;
        outs[7 * 12] = 2000;
        x.run(6);
        Checks.due("the version that was kept", x.cell(8), 1000);
        Checks.due("what was put out", x.out(7, 0), 2000);
    }

    private static void scheduleSaysWho() {
        Set<Integer> first = new HashSet<>();
        for (int schedule = 0; schedule < 8; schedule++) {
            BlockExecutor x = chain(8, 8);
            x.work(schedule, 9);
            first.add(whoHasBegun(x));
        }
        Checks.due("eight schedules: who of eight goes on first", first.size(), 8);
        Set<String> ways = new HashSet<>();
        for (int schedule : Stories.SCHEDULES) {
            String way = way(4, schedule);
            Checks.dueTrue("the same schedule, the same way", way.equals(way(4, schedule)));
            ways.add(way);
        }
        Checks.dueTrue("other schedules, other ways: " + ways.size(), ways.size() > 10);
    }

    private static int whoHasBegun(BlockExecutor x) {
        int who = 0;
        for (int t = 0; t < 8; t++) {
            who |= (new Inside(x).numbers("position")[t] > 0 ? 1 : 0) << t;
        }
        return who;
    }

    private static String way(int workers, int schedule) {
        BlockExecutor x = chain(workers, 8);
        x.work(schedule, 24);
        return new Inside(x).all();
    }

    private static void stepsAreMade() {
        for (int workers = 1; workers <= 9; workers++) {
            BlockExecutor x = chain(workers, 8);
            Inside inside = new Inside(x);
            x.work(0, 0);
            int made = 0;
            while (inside.settled() < 8 && made < ENOUGH_STEPS) {
                String before = inside.all();
                x.work(0, 0);
                x.work(-1, -1);
                x.work(5, MIN);
                Checks.dueTrue("steps below 1 make none", before.equals(inside.all()));
                x.work(0, 1);
                made++;
                Checks.dueTrue("each step is made", !before.equals(inside.all()));
                Checks.dueTrue("step by step or at once, it is the same",
                        inside.all().equals(insideAfter(workers, made)));
            }
            Checks.due("settled after " + made + " steps", inside.settled(), 8);
        }
    }

    private static String insideAfter(int workers, int steps) {
        BlockExecutor x = chain(workers, 8);
        x.work(0, steps);
        return new Inside(x).all();
    }

    private static void settledButNotFinished() {
        for (int schedule : Stories.SCHEDULES) {
            BlockExecutor x = chain(5, 8);
            x.work(schedule, ENOUGH_STEPS);
            Inside inside = new Inside(x);
            Checks.due("all are settled", inside.settled(), 8);
            String before = inside.all();
            x.work(schedule, MAX);
            Checks.dueTrue("nothing is left to do", before.equals(inside.all()));
            Checks.due("phase()", x.phase(), 1);
            Checks.dueCells("nothing shows", x, 3);
        }
    }

    private static BlockExecutor finishedChain() {
        BlockExecutor x = chain(3, 8);
        x.run(1);
        return x;
    }

    private static void dueFaults(String planted, BlockExecutor x, int want) {
        Checks.due(planted + ": faults()", x.faults(), want);
    }

    /** Faults that the class never makes are planted, and must be found. */
    private static void faultsAreFound() {
        for (int t = 0; t < 8; t++) {
            BlockExecutor x = finishedChain();
            dueFaults("nothing", x, 0);
            new Inside(x).numbers("storedValues")[t * 16 + t + 1]++;
            dueFaults("another version than was seen, of " + t, x, t < 7 ? 1 : 0);
            x = finishedChain();
            new Inside(x).numbers("seenValues")[t * 16 + t]++;
            dueFaults("another value than there was, seen by " + t, x, 1);
            x = finishedChain();
            new Inside(x).numbers("storedCells")[t] = 0;
            dueFaults("a version is lost, of " + t, x, t < 7 ? 1 : 0);
            x = finishedChain();
            new Inside(x).signs("failed")[t] = true;
            dueFaults("one that failed keeps its versions: " + t, x, 1);
            x = finishedChain();
            new Inside(x).numbers("state")[t] = Inside.CARRIED_OUT;
            dueFaults("one is not settled: " + t, x, 1);
        }
        BlockExecutor x = finishedChain();
        new Inside(x).numbers("before")[0]++;
        dueFaults("another store than it was carried out on", x, 1);
        new Inside(x).signs("failed")[5] = true;
        dueFaults("two", x, 2);
        x.next();
        dueFaults("of a new block no versions are kept", x, 0);
        x = finishedChain();
        new Inside(x).numbers("state")[7] = Inside.CARRIED_OUT;
        new Inside(x).setSettled(7);
        dueFaults("it is finished, but the last one was not settled", x, 1);
        oneFailed("one that failed has put out", "SET 0 1", "PUT 0");
        oneFailed("one that failed has stored", "SET 0 1", "STORE 0 1");
    }

    private static void oneFailed(String planted, String... lines) {
        BlockExecutor x = new BlockExecutor(2);
        Checks.transaction(x, lines);
        x.run(0);
        new Inside(x).signs("failed")[0] = true;
        dueFaults(planted, x, 1);
    }

    private static void faultsWhileItRuns() {
        for (int workers = 1; workers <= 8; workers++) {
            for (int steps = 0; steps <= ENOUGH_STEPS; steps++) {
                BlockExecutor x = chain(workers, 8);
                x.work(steps * 31, steps);
                dueFaults("nothing", x, 0);
                Inside inside = new Inside(x);
                int settled = inside.settled();
                if (settled > 0) {
                    inside.numbers("seenValues")[(settled - 1) * 16 + settled - 1]++;
                    dueFaults("another value than there was, seen by one that is settled", x, 1);
                } else {
                    inside.numbers("seenCells")[7] = 0;
                    inside.numbers("state")[7] = Inside.SETTLED;
                    dueFaults("one is settled before its turn", x, 1);
                }
            }
        }
    }
}
