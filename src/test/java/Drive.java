import java.lang.reflect.InvocationTargetException;
import java.lang.reflect.Method;
import java.nio.charset.StandardCharsets;
import java.util.HashMap;
import java.util.Map;

/** One object under test: calls it by name and counts the answers that are not the ones due. */
final class Drive {
    private static int wrong = 0;
    private static int calls = 0;
    private static final Map<String, Method> METHODS = new HashMap<>();

    private final String title;
    private final Object target;

    Drive(String title) {
        this(title, new TorusZones());
    }

    Drive(String title, Object target) {
        this.title = title;
        this.target = target;
    }

    /** What a call answers, as a text: the number, true or false, void, or throws.NameOfTheException. */
    String call(String name, int... args) {
        calls++;
        Object[] boxed = new Object[args.length];
        for (int i = 0; i < args.length; i++) {
            boxed[i] = args[i];
        }
        try {
            Object answer = methodOf(target.getClass(), name).invoke(target, boxed);
            return answer == null ? "void" : answer.toString();
        } catch (InvocationTargetException e) {
            return "throws." + e.getCause().getClass().getSimpleName();
        } catch (IllegalAccessException e) {
            throw new IllegalStateException(e);
        }
    }

    private static Method methodOf(Class<?> owner, String name) {
        return METHODS.computeIfAbsent(owner.getName() + "." + name, any -> {
            for (Method method : owner.getDeclaredMethods()) {
                if (method.getName().equals(name)) {
                    method.setAccessible(true);
                    return method;
                }
            }
            throw new IllegalArgumentException("no method " + name);
        });
    }

    Drive due(Object answer, String name, int... args) {
        String got = call(name, args);
        if (!got.equals(String.valueOf(answer))) {
            fail(written(name, args) + " answered " + got + ", due is " + answer);
        }
        return this;
    }

    /** Calls that must be as told, as set-up of a test. */
    Drive does(String name, int... args) {
        String got = call(name, args);
        if (got.startsWith("throws.")) {
            fail(written(name, args) + " answered " + got + ", should not throw");
        }
        return this;
    }

    Drive state(String name, int... args) {
        return due("throws.IllegalStateException", name, args);
    }

    Drive argument(String name, int... args) {
        return due("throws.IllegalArgumentException", name, args);
    }

    Drive index(String name, int... args) {
        return due("throws.IndexOutOfBoundsException", name, args);
    }

    Drive element(String name, int... args) {
        return due("throws.NoSuchElementException", name, args);
    }

    Drive refused(int why, String name, int... args) {
        return state(name, args).due(why, "why");
    }

    /** Puts a text on the tape, which must be empty. */
    Drive tape(String text) {
        byte[] bytes = text.getBytes(StandardCharsets.ISO_8859_1);
        for (int from = 0; from < bytes.length; from += 20) {
            int[] row = new int[5];
            for (int i = 0; i < 20; i++) {
                int one = from + i < bytes.length ? bytes[from + i] & 255 : 0;
                row[i / 4] |= one << 24 - i % 4 * 8;
            }
            due(from + 20, "feed", row);
        }
        return due(true, "end", bytes.length);
    }

    /** A text that is right, with as many acts. */
    Drive text(int acts, String text) {
        return tape(text).due(acts, "acts").due(-1, "fault");
    }

    /** A text that is wrong at a byte. */
    Drive wrongText(int fault, String text) {
        return tape(text).argument("acts").due(fault, "fault");
    }

    void fail(String message) {
        wrong++;
        System.out.println(title + ": " + message);
    }

    private static String written(String name, int... args) {
        StringBuilder call = new StringBuilder(name).append('(');
        for (int i = 0; i < args.length; i++) {
            call.append(i == 0 ? "" : ", ").append(args[i]);
        }
        return call.append(')').toString();
    }

    static void finish() {
        System.out.println(calls + " calls, " + wrong + " wrong");
        System.exit(wrong == 0 && calls > 0 ? 0 : 1);
    }
}
