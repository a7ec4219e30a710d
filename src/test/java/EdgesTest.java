import java.lang.reflect.Method;
import java.lang.reflect.Modifier;
import java.util.Arrays;

/** Every call with numbers from far out to just within, in several states: never a thing that the machine throws. */
public final class EdgesTest {
    private static final int[] FAR = {Integer.MIN_VALUE, -2, -1, 0, 1, 2, 5, 9, 31, 99, Integer.MAX_VALUE};
    private static final int[] CLOSE = {-1, 0, 1, 31, 32, Integer.MAX_VALUE};

    public static void main(String[] args) {
        String[] states = {
            "", "net 3", "join 0 0 at 0 0", "net 3;join 1 2 at 3 4;join 5 6 at 20 20;put 5 5;crash 1",
            "net 2;landmark 1 1;landmark 9 9;landmark 5 0;join 0 0 near;join 50 50 near;join 99 99 near;put 1 1;leave 0",
            "join 0 0 near;crash 0", "net 2;join 0 0 near;put 0 0;leave 0"
        };
        for (String state : states) {
            for (Method method : TorusZones.class.getDeclaredMethods()) {
                if (Modifier.isPublic(method.getModifiers()) && method.getParameterCount() > 0) {
                    tryAll(state, method.getName(), new int[method.getParameterCount()], 0);
                }
            }
        }
        Drive.finish();
    }

    private static void tryAll(String state, String name, int[] row, int filled) {
        if (filled == row.length) {
            compare(state, name, row);
            return;
        }
        for (int number : row.length > 3 ? CLOSE : FAR) {
            row[filled] = number;
            tryAll(state, name, row, filled + 1);
        }
    }

    private static void compare(String state, String name, int[] row) {
        Drive real = lastReal(state);
        Drive model = lastModel;
        String got = real.call(name, row);
        String due = model.call(name, row);
        if (!got.equals(due)) {
            real.fail(name + Arrays.toString(row) + " answered " + got + ", due is " + due);
        }
        boolean changes = name.equals("join") || name.equals("near") || name.equals("go") || name.equals("put")
            || name.equals("cut") || name.equals("feed") || name.equals("end");
        if (changes && !got.startsWith("throws.")) {
            lastState = null;
        }
    }

    private static String lastState = null;
    private static Drive lastReal = null;
    private static Drive lastModel = null;

    /** One object serves as long as its state is the one asked for. */
    private static Drive lastReal(String state) {
        if (!state.equals(lastState)) {
            lastReal = new Drive("[" + state + "]");
            lastModel = new Drive("model", new Model());
            for (Drive drive : new Drive[] {lastReal, lastModel}) {
                drive.tape(state).does("acts");
            }
            lastState = state;
        }
        return lastReal;
    }
}
