import java.lang.reflect.Constructor;
import java.lang.reflect.Field;
import java.lang.reflect.Method;
import java.lang.reflect.Modifier;
import java.util.Arrays;
import java.util.HashSet;
import java.util.List;
import java.util.Set;
import java.util.TreeSet;

/** The public face of the document, and no other member that can be seen from outside. */
public final class FaceTest {
    private static final List<String> METHODS = List.of("begin()", "add(int, int, int)", "undo()",
            "poke(int, int)", "run(int)", "work(int, int)", "phase()", "next()", "cell(int)",
            "digest()", "transactions()", "result(int)", "outs(int)", "out(int, int)",
            "stored(int)", "faults()");

    public static void main(String[] args) {
        constants();
        classAndConstructor();
        methods();
        fields();
        Checks.end();
    }

    private static void constants() {
        Checks.due("BAD", BlockExecutor.BAD, Checks.BAD);
        Checks.due("FULL", BlockExecutor.FULL, Checks.FULL);
        Checks.due("FINISHED", BlockExecutor.FINISHED, Checks.FINISHED);
        Checks.due("RUNNING", BlockExecutor.RUNNING, Checks.RUNNING);
        Checks.due("NONE", BlockExecutor.NONE, Checks.NONE);
    }

    private static void classAndConstructor() {
        int modifiers = BlockExecutor.class.getModifiers();
        Checks.due("modifiers of the class", modifiers, Modifier.PUBLIC | Modifier.FINAL);
        Constructor<?>[] made = BlockExecutor.class.getDeclaredConstructors();
        Checks.due("constructors", made.length, 1);
        Checks.due("modifiers of the constructor", made[0].getModifiers(), Modifier.PUBLIC);
        Checks.dueTrue("the constructor takes an int",
                Arrays.equals(made[0].getParameterTypes(), new Class<?>[] {int.class}));
        Checks.due("nested classes", BlockExecutor.class.getDeclaredClasses().length, 0);
        Checks.dueTrue("no other ancestor", BlockExecutor.class.getSuperclass() == Object.class
                && BlockExecutor.class.getInterfaces().length == 0);
    }

    private static void methods() {
        Set<String> open = new TreeSet<>();
        Set<String> openNames = new HashSet<>();
        for (Method m : BlockExecutor.class.getDeclaredMethods()) {
            Checks.dueTrue(m.getName() + " has at most seven parameters", m.getParameterCount() <= 7);
            if (!Modifier.isPrivate(m.getModifiers())) {
                Checks.due("modifiers of " + m.getName(), m.getModifiers(), Modifier.PUBLIC);
                Checks.dueTrue(m.getName() + " answers an int", m.getReturnType() == int.class);
                openNames.add(m.getName());
                String types = Arrays.toString(m.getParameterTypes());
                open.add(m.getName() + "(" + types.substring(1, types.length() - 1) + ")");
            }
        }
        Checks.dueTrue("the methods are those of the document: " + open,
                open.equals(new TreeSet<>(METHODS)));
        for (Method m : BlockExecutor.class.getDeclaredMethods()) {
            if (Modifier.isPrivate(m.getModifiers())) {
                Checks.dueTrue(m.getName() + " is no public name", !openNames.contains(m.getName()));
            }
        }
    }

    private static void fields() {
        Set<String> open = new TreeSet<>();
        int own = 0;
        for (Field f : BlockExecutor.class.getDeclaredFields()) {
            if (!Modifier.isPrivate(f.getModifiers())) {
                open.add(f.getName());
                Checks.due("modifiers of " + f.getName(), f.getModifiers(),
                        Modifier.PUBLIC | Modifier.STATIC | Modifier.FINAL);
            }
            if (Modifier.isStatic(f.getModifiers())) {
                Checks.dueTrue(f.getName() + " is a constant", Modifier.isFinal(f.getModifiers())
                        && (f.getType() == int.class || f.getType() == long.class));
            } else {
                own++;
            }
        }
        Checks.dueTrue("the constants are those of the document: " + open,
                open.equals(Set.of("BAD", "FULL", "FINISHED", "RUNNING", "NONE")));
        Checks.dueTrue("at most forty fields", own <= 40);
    }
}
