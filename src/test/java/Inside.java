import java.lang.reflect.Field;
import java.lang.reflect.Modifier;
import java.util.Arrays;

/**
 * What an object holds inside. The document leaves that free, so what stands here changes with the
 * class; it is needed where a sentence of the document holds but no answer can show it.
 */
final class Inside {
    static final int WAITING = 0;
    static final int CARRIED_OUT = 2;
    static final int SETTLED = 3;

    private static final int NOTHING = -1;

    private final BlockExecutor x;

    Inside(BlockExecutor x) {
        this.x = x;
    }

    private static Field field(String name) {
        try {
            Field f = BlockExecutor.class.getDeclaredField(name);
            f.setAccessible(true);
            return f;
        } catch (ReflectiveOperationException e) {
            throw new IllegalStateException(e);
        }
    }

    private Object value(Field f) {
        try {
            return f.get(x);
        } catch (ReflectiveOperationException e) {
            throw new IllegalStateException(e);
        }
    }

    int[] numbers(String name) {
        return (int[]) value(field(name));
    }

    boolean[] signs(String name) {
        return (boolean[]) value(field(name));
    }

    /** How many transactions are settled. */
    int settled() {
        return (int) value(field("settled"));
    }

    void setSettled(int count) {
        try {
            field("settled").set(x, count);
        } catch (ReflectiveOperationException e) {
            throw new IllegalStateException(e);
        }
    }

    /** How many workers have a transaction in hand. */
    int inHand() {
        int found = 0;
        for (int t : numbers("held")) {
            found += t == NOTHING ? 0 : 1;
        }
        return found;
    }

    /** How many transactions are in hand, and begun: at least one instruction has been carried out. */
    int halfway() {
        int found = 0;
        for (int t : numbers("held")) {
            found += t != NOTHING && numbers("position")[t] > 0 ? 1 : 0;
        }
        return found;
    }

    /** How many of the transactions wait for a worker. */
    int waiting() {
        int found = 0;
        for (int t = 0; t < x.transactions(); t++) {
            found += numbers("state")[t] == WAITING ? 1 : 0;
        }
        return found;
    }

    /** Everything that is inside. */
    String all() {
        StringBuilder told = new StringBuilder();
        for (Field f : BlockExecutor.class.getDeclaredFields()) {
            if (!Modifier.isStatic(f.getModifiers())) {
                f.setAccessible(true);
                Object[] one = {value(f)};
                told.append(f.getName()).append(Arrays.deepToString(one));
            }
        }
        return told.toString();
    }
}
