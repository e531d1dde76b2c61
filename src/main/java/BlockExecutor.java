/**
 * Carries out a block of small programs at the same time, so that it comes out as if they had been
 * carried out one after the other.
 *
 * <p>Each worker has one transaction at a time in hand and carries it out, one instruction a step,
 * without waiting for the transactions before it. What a transaction stores is kept as its own
 * version of the cells, and what it saw of the cells is kept too. The transactions are settled in
 * their order: if one saw something that is not so any more, it is carried out again. A transaction
 * whose predecessors are all settled sees what stays, so none is carried out more than twice.
 */
public final class BlockExecutor {
    public static final int BAD = -1;
    public static final int FULL = -2;
    public static final int FINISHED = -3;
    public static final int RUNNING = -4;
    public static final int NONE = -5;

    private static final int CELLS = 16;
    private static final int CELL_MASK = 15;
    private static final int REGISTERS = 4;
    private static final int PLACES = 16;
    private static final int MOST_TRANSACTIONS = 8;
    private static final int MOST_INSTRUCTIONS = 12;
    private static final int ALL_INSTRUCTIONS = MOST_TRANSACTIONS * MOST_INSTRUCTIONS;
    private static final int ALL_REGISTERS = MOST_TRANSACTIONS * REGISTERS;
    private static final int ALL_VERSIONS = MOST_TRANSACTIONS * CELLS;

    // More workers than transactions would have nothing to do.
    private static final int MOST_WORKERS = 8;

    // The schedule is read three bits at a time, round and round.
    private static final int TURN_BITS = 3;
    private static final int TURN_MASK = 7;
    private static final int OTHER_BITS = 32 - TURN_BITS;

    // At worst one worker alone has a transaction in hand, and is passed over seven times.
    private static final int LONGEST_WAY = MOST_WORKERS * (TURN_MASK + 1);

    // Far above what a block can need: eight transactions, each taken, carried out and looked at
    // twice, are less than three hundred steps.
    private static final int MOST_STEPS = 100000;

    private static final int SET = 0;
    private static final int ADD = 1;
    private static final int SUB = 2;
    private static final int LOAD = 3;
    private static final int STORE = 4;
    private static final int MUL = 5;
    private static final int SKIP = 6;
    private static final int NEED = 7;
    private static final int PUT = 8;
    private static final int REACH = 9;
    private static final int PLACE = 10;
    private static final int STOP = 11;

    private static final int IS_BUILT = 0;
    private static final int IS_BEGUN = 1;
    private static final int IS_FINISHED = 2;

    // The states of a transaction; from CARRIED_OUT on, the others see its versions.
    private static final int WAITING = 0;
    private static final int TAKEN = 1;
    private static final int CARRIED_OUT = 2;
    private static final int SETTLED = 3;

    private static final int NOTHING = -1;

    private final int workers;
    private final int[] store = new int[CELLS];
    private int stage = IS_BUILT;

    private int count = 0;
    private final int[] length = new int[MOST_TRANSACTIONS];
    private final int[] codeOperation = new int[ALL_INSTRUCTIONS];
    private final int[] codePlaces = new int[ALL_INSTRUCTIONS];
    private final int[] codeNumber = new int[ALL_INSTRUCTIONS];

    // A finished block's store can be poked, so what its transactions began on is kept apart.
    private final int[] before = new int[CELLS];
    private int settled = 0;
    private int turn = 0;
    private final int[] held = new int[MOST_WORKERS];

    private final int[] state = new int[MOST_TRANSACTIONS];
    private final int[] position = new int[MOST_TRANSACTIONS];
    private final int[] registers = new int[ALL_REGISTERS];
    private final boolean[] failed = new boolean[MOST_TRANSACTIONS];
    private final int[] seenCells = new int[MOST_TRANSACTIONS];
    private final int[] seenValues = new int[ALL_VERSIONS];
    private final int[] storedCells = new int[MOST_TRANSACTIONS];
    private final int[] storedValues = new int[ALL_VERSIONS];
    private final int[] outCount = new int[MOST_TRANSACTIONS];
    private final int[] outValues = new int[ALL_INSTRUCTIONS];

    public BlockExecutor(int workers) {
        if (workers < 1) {
            this.workers = 1;
        } else if (workers > MOST_WORKERS) {
            this.workers = MOST_WORKERS;
        } else {
            this.workers = workers;
        }
    }

    public int begin() {
        if (stage != IS_BUILT) {
            return refusal();
        }
        if (count >= MOST_TRANSACTIONS) {
            return FULL;
        }
        length[count] = 0;
        count++;
        return count - 1;
    }

    public int add(int operation, int places, int n) {
        if (stage != IS_BUILT) {
            return refusal();
        }
        if (operation < SET || operation > STOP || places < 0 || places >= PLACES) {
            return BAD;
        }
        if (count == 0) {
            return NONE;
        }
        int last = count - 1;
        int at = length[last];
        if (at >= MOST_INSTRUCTIONS) {
            return FULL;
        }
        int i = last * MOST_INSTRUCTIONS + at;
        codeOperation[i] = operation;
        codePlaces[i] = places;
        codeNumber[i] = n;
        length[last] = at + 1;
        return at;
    }

    public int undo() {
        if (stage != IS_BUILT) {
            return refusal();
        }
        if (count == 0) {
            return NONE;
        }
        if (length[count - 1] > 0) {
            length[count - 1]--;
        } else {
            count--;
        }
        return count == 0 ? 0 : length[count - 1];
    }

    public int poke(int cell, int value) {
        if (stage == IS_BEGUN) {
            return RUNNING;
        }
        if (!isCell(cell)) {
            return BAD;
        }
        store[cell] = value;
        return 0;
    }

    public int run(int schedule) {
        if (stage == IS_FINISHED) {
            return FINISHED;
        }
        startIfBuilt();
        makeSteps(schedule, MOST_STEPS);
        keepStores();
        stage = IS_FINISHED;
        return countDone();
    }

    public int work(int schedule, int steps) {
        if (stage == IS_FINISHED) {
            return FINISHED;
        }
        startIfBuilt();
        makeSteps(schedule, steps);
        return 0;
    }

    public int phase() {
        return stage;
    }

    public int next() {
        if (stage == IS_BEGUN) {
            return RUNNING;
        }
        count = 0;
        stage = IS_BUILT;
        return 0;
    }

    public int cell(int cell) {
        return isCell(cell) ? store[cell] : 0;
    }

    public int digest() {
        int sum = 0;
        for (int i = 0; i < CELLS; i++) {
            sum += (i + 1) * store[i];
        }
        return sum;
    }

    public int transactions() {
        return count;
    }

    public int result(int t) {
        if (!isTransaction(t)) {
            return BAD;
        }
        if (stage != IS_FINISHED) {
            return NONE;
        }
        return failed[t] ? 0 : 1;
    }

    public int outs(int t) {
        if (!isTransaction(t)) {
            return BAD;
        }
        return stage == IS_FINISHED ? outCount[t] : NONE;
    }

    public int out(int t, int k) {
        if (stage != IS_FINISHED || !isTransaction(t)) {
            return 0;
        }
        if (k < 0 || k >= outCount[t]) {
            return 0;
        }
        return outValues[t * MOST_INSTRUCTIONS + k];
    }

    public int stored(int t) {
        if (!isTransaction(t)) {
            return BAD;
        }
        return stage == IS_FINISHED ? storedCells[t] : NONE;
    }

    public int faults() {
        if (stage == IS_BUILT) {
            return 0;
        }
        int found = 0;
        for (int t = 0; t < count; t++) {
            if (!isInOrder(t)) {
                found++;
            }
            if (failed[t] && (storedCells[t] != 0 || outCount[t] != 0)) {
                found++;
            }
            if (state[t] == SETTLED && !seesTheSame(t)) {
                found++;
            }
        }
        return found;
    }

    private int refusal() {
        return stage == IS_FINISHED ? FINISHED : RUNNING;
    }

    private boolean isCell(int cell) {
        return cell >= 0 && cell < CELLS;
    }

    private boolean isTransaction(int t) {
        return t >= 0 && t < count;
    }

    private void startIfBuilt() {
        if (stage != IS_BUILT) {
            return;
        }
        for (int i = 0; i < CELLS; i++) {
            before[i] = store[i];
        }
        for (int w = 0; w < MOST_WORKERS; w++) {
            held[w] = NOTHING;
        }
        for (int t = 0; t < MOST_TRANSACTIONS; t++) {
            state[t] = WAITING;
        }
        settled = 0;
        turn = 0;
        stage = IS_BEGUN;
    }

    private void clear(int t) {
        for (int r = 0; r < REGISTERS; r++) {
            registers[t * REGISTERS + r] = 0;
        }
        position[t] = 0;
        failed[t] = false;
        seenCells[t] = 0;
        storedCells[t] = 0;
        outCount[t] = 0;
    }

    // A free worker that finds something to do comes first: whatever the schedule, as many work at
    // the same time as there are workers and transactions for them. Which of those that have a
    // transaction in hand goes on, the schedule says.
    private void makeSteps(int schedule, int steps) {
        int turns = schedule;
        for (int i = 0; i < steps && i < MOST_STEPS && settled < count; i++) {
            int free = firstFree();
            int waiting = firstWaiting();
            if (free != NOTHING && state[settled] == CARRIED_OUT) {
                settle();
            } else if (free != NOTHING && waiting != NOTHING) {
                take(free, waiting);
            } else {
                int worker = nextBusy(turns & TURN_MASK);
                goOn(worker);
                turn = worker + 1;
                turns = (turns >>> TURN_BITS) | (turns << OTHER_BITS);
            }
        }
    }

    private int firstFree() {
        for (int w = 0; w < workers; w++) {
            if (held[w] == NOTHING) {
                return w;
            }
        }
        return NOTHING;
    }

    private int firstWaiting() {
        for (int t = settled; t < count; t++) {
            if (state[t] == WAITING) {
                return t;
            }
        }
        return NOTHING;
    }

    // With nobody passed over, the workers go on in turn; so a schedule of 0 is an even one.
    private int nextBusy(int passedOver) {
        int left = passedOver;
        int worker = turn;
        for (int i = 0; i < LONGEST_WAY; i++) {
            if (worker >= workers) {
                worker = 0;
            }
            if (held[worker] != NOTHING) {
                if (left == 0) {
                    return worker;
                }
                left--;
            }
            worker++;
        }
        return 0;
    }

    private void settle() {
        if (seesTheSame(settled)) {
            state[settled] = SETTLED;
            settled++;
        } else {
            state[settled] = WAITING;
        }
    }

    private void take(int worker, int t) {
        clear(t);
        state[t] = TAKEN;
        held[worker] = t;
    }

    private void goOn(int worker) {
        int t = held[worker];
        if (t == NOTHING) {
            return;
        }
        if (position[t] < length[t]) {
            carryOut(t);
        }
        if (position[t] >= length[t]) {
            state[t] = CARRIED_OUT;
            held[worker] = NOTHING;
        }
    }

    private void carryOut(int t) {
        int i = t * MOST_INSTRUCTIONS + position[t];
        int a = t * REGISTERS + (codePlaces[i] >> 2);
        int b = t * REGISTERS + (codePlaces[i] & 3);
        int n = codeNumber[i];
        position[t]++;
        switch (codeOperation[i]) {
            case SET:
                registers[a] = n;
                break;
            case ADD:
                registers[a] += registers[b];
                break;
            case SUB:
                registers[a] -= registers[b];
                break;
            case LOAD:
                registers[a] = look(t, n & CELL_MASK);
                break;
            case STORE:
                keep(t, n & CELL_MASK, registers[a]);
                break;
            case MUL:
                registers[a] *= registers[b];
                break;
            case SKIP:
                if (registers[a] < registers[b]) {
                    position[t]++;
                }
                break;
            case NEED:
                if (registers[a] < n) {
                    fail(t);
                }
                break;
            case PUT:
                putOut(t, registers[a]);
                break;
            case REACH:
                registers[a] = look(t, registers[b] & CELL_MASK);
                break;
            case PLACE:
                keep(t, registers[b] & CELL_MASK, registers[a]);
                break;
            default:
                position[t] = length[t];
                break;
        }
    }

    // What was seen first is seen again: a transaction that is settled has then seen one store only.
    private int look(int t, int cell) {
        int bit = 1 << cell;
        int at = t * CELLS + cell;
        if ((storedCells[t] & bit) != 0) {
            return storedValues[at];
        }
        if ((seenCells[t] & bit) == 0) {
            seenValues[at] = valueBefore(t, cell);
            seenCells[t] |= bit;
        }
        return seenValues[at];
    }

    private void keep(int t, int cell, int value) {
        storedCells[t] |= 1 << cell;
        storedValues[t * CELLS + cell] = value;
    }

    private void fail(int t) {
        failed[t] = true;
        storedCells[t] = 0;
        outCount[t] = 0;
        position[t] = length[t];
    }

    private void putOut(int t, int value) {
        int k = outCount[t];
        if (k < MOST_INSTRUCTIONS) {
            outValues[t * MOST_INSTRUCTIONS + k] = value;
            outCount[t] = k + 1;
        }
    }

    private int valueBefore(int t, int cell) {
        for (int u = t - 1; u >= 0; u--) {
            if (state[u] >= CARRIED_OUT && ((storedCells[u] >> cell) & 1) != 0) {
                return storedValues[u * CELLS + cell];
            }
        }
        return before[cell];
    }

    private boolean seesTheSame(int t) {
        for (int cell = 0; cell < CELLS; cell++) {
            if (((seenCells[t] >> cell) & 1) != 0) {
                int value = valueBefore(t, cell);
                if (value != seenValues[t * CELLS + cell]) {
                    return false;
                }
            }
        }
        return true;
    }

    private boolean isInOrder(int t) {
        boolean mustBeSettled = t < settled || stage == IS_FINISHED;
        return mustBeSettled == (state[t] == SETTLED);
    }

    private void keepStores() {
        for (int t = 0; t < count; t++) {
            for (int cell = 0; cell < CELLS; cell++) {
                if (((storedCells[t] >> cell) & 1) != 0) {
                    store[cell] = storedValues[t * CELLS + cell];
                }
            }
        }
    }

    private int countDone() {
        int done = 0;
        for (int t = 0; t < count; t++) {
            if (!failed[t]) {
                done++;
            }
        }
        return done;
    }
}
