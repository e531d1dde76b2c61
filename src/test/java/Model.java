import java.util.ArrayList;
import java.util.List;

/** The document told anew in its plainest form: run carries the transactions out one after the other. */
final class Model {
    private final int[] store = new int[16];
    private final List<List<int[]>> block = new ArrayList<>();
    private final List<List<Integer>> outs = new ArrayList<>();
    private final List<Boolean> done = new ArrayList<>();
    private final List<Integer> stored = new ArrayList<>();
    private int phase = 0;

    private int refusal() {
        return phase == 2 ? Checks.FINISHED : Checks.RUNNING;
    }

    int begin() {
        if (phase != 0) {
            return refusal();
        }
        if (block.size() == 8) {
            return Checks.FULL;
        }
        block.add(new ArrayList<>());
        return block.size() - 1;
    }

    int add(int operation, int places, int n) {
        if (phase != 0) {
            return refusal();
        }
        if (operation < 0 || operation > 11 || places < 0 || places > 15) {
            return Checks.BAD;
        }
        if (block.isEmpty()) {
            return Checks.NONE;
        }
        List<int[]> last = block.get(block.size() - 1);
        if (last.size() == 12) {
            return Checks.FULL;
        }
        last.add(new int[] {operation, places / 4, places % 4, n});
        return last.size() - 1;
    }

    int undo() {
        if (phase != 0) {
            return refusal();
        }
        if (block.isEmpty()) {
            return Checks.NONE;
        }
        List<int[]> last = block.get(block.size() - 1);
        if (last.isEmpty()) {
            block.remove(block.size() - 1);
        } else {
            last.remove(last.size() - 1);
        }
        return block.isEmpty() ? 0 : block.get(block.size() - 1).size();
    }

    int poke(int cell, int value) {
        if (phase == 1) {
            return Checks.RUNNING;
        }
        if (cell < 0 || cell > 15) {
            return Checks.BAD;
        }
        store[cell] = value;
        return 0;
    }

    int run() {
        if (phase == 2) {
            return Checks.FINISHED;
        }
        outs.clear();
        done.clear();
        stored.clear();
        int count = 0;
        for (List<int[]> code : block) {
            count += carryOut(code) ? 1 : 0;
        }
        phase = 2;
        return count;
    }

    private boolean carryOut(List<int[]> code) {
        int[] view = store.clone();
        int[] r = new int[4];
        List<Integer> put = new ArrayList<>();
        int bits = 0;
        boolean ok = true;
        int at = 0;
        while (ok && at < code.size()) {
            int[] c = code.get(at);
            int a = c[1];
            int b = c[2];
            int n = c[3];
            at++;
            switch (c[0]) {
                case Code.SET -> r[a] = n;
                case Code.ADD -> r[a] = r[a] + r[b];
                case Code.SUB -> r[a] = r[a] - r[b];
                case Code.LOAD -> r[a] = view[n & 15];
                case Code.STORE -> {
                    view[n & 15] = r[a];
                    bits |= 1 << (n & 15);
                }
                case Code.MUL -> r[a] = r[a] * r[b];
                case Code.SKIP -> at += r[a] < r[b] ? 1 : 0;
                case Code.NEED -> ok = r[a] >= n;
                case Code.PUT -> put.add(r[a]);
                case Code.REACH -> r[a] = view[r[b] & 15];
                case Code.PLACE -> {
                    view[r[b] & 15] = r[a];
                    bits |= 1 << (r[b] & 15);
                }
                default -> at = code.size();
            }
        }
        if (ok) {
            System.arraycopy(view, 0, store, 0, 16);
        }
        done.add(ok);
        outs.add(ok ? put : new ArrayList<>());
        stored.add(ok ? bits : 0);
        return ok;
    }

    int work() {
        if (phase == 2) {
            return Checks.FINISHED;
        }
        phase = 1;
        return 0;
    }

    int phase() {
        return phase;
    }

    int next() {
        if (phase == 1) {
            return Checks.RUNNING;
        }
        block.clear();
        phase = 0;
        return 0;
    }

    int cell(int cell) {
        return cell < 0 || cell > 15 ? 0 : store[cell];
    }

    int digest() {
        int sum = 0;
        for (int i = 0; i < 16; i++) {
            sum += (i + 1) * store[i];
        }
        return sum;
    }

    int transactions() {
        return block.size();
    }

    private int whyNot(int t) {
        if (t < 0 || t >= block.size()) {
            return Checks.BAD;
        }
        return phase == 2 ? 0 : Checks.NONE;
    }

    int result(int t) {
        return whyNot(t) != 0 ? whyNot(t) : done.get(t) ? 1 : 0;
    }

    int outs(int t) {
        return whyNot(t) != 0 ? whyNot(t) : outs.get(t).size();
    }

    int out(int t, int k) {
        return whyNot(t) != 0 || k < 0 || k >= outs.get(t).size() ? 0 : outs.get(t).get(k);
    }

    int stored(int t) {
        return whyNot(t) != 0 ? whyNot(t) : stored.get(t);
    }
}
