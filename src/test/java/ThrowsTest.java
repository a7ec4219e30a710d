import java.util.ArrayList;
import java.util.List;
import java.util.function.Consumer;

/**
 * "Of several exceptions the one told first is thrown; a call that throws changes nothing ..": every call with every
 * number at both ends of its bounds and one beyond, alone and together with the others.
 */
public final class ThrowsTest {
    private static final String INDEX = "throws.IndexOutOfBoundsException";
    private static final String ARGUMENT = "throws.IllegalArgumentException";
    private static final String ELEMENT = "throws.NoSuchElementException";
    private static final String STATE = "throws.IllegalStateException";
    /** In this order they are told by every promise. */
    private static final String[] TOLD = {INDEX, ARGUMENT, ELEMENT};

    /** Of each call its numbers: how they are named below. */
    private static final String[][] CALLS = {
        {"join", "place", "place", "cell", "cell"}, {"near", "place", "place"}, {"go", "node", "what 3"},
        {"put", "key", "value"}, {"cut", "key"}, {"node", "node", "what 3"}, {"held", "node", "reality", "what 5"},
        {"zone", "node", "reality", "any"}, {"box", "zone", "what 5"}, {"cell", "reality", "cell", "cell", "what 2"},
        {"heir", "node", "reality", "any"}, {"key", "key", "what 2"}, {"point", "key", "reality", "what 3"},
        {"way", "node", "reality", "cell", "cell", "any"}, {"seek", "node", "key", "what 5"}, {"risk", "node"},
        {"order", "place", "place"}, {"reality", "reality", "what 6"}, {"ways", "reality", "what 4"}, {"friends", "node"}
    };
    private static final String ACTS = " join near go put cut ";

    private final int realities;
    private final Consumer<Drive> setUp;
    private final List<String> names = new ArrayList<>();
    private final List<int[]> rows = new ArrayList<>();
    private final List<String> answers = new ArrayList<>();

    private ThrowsTest(int realities, Consumer<Drive> setUp) {
        this.realities = realities;
        this.setUp = setUp;
    }

    public static void main(String[] args) {
        new ThrowsTest(1, x -> { }).tryAll("new object");
        new ThrowsTest(2, ThrowsTest::some).tryAll("some are up");
        new ThrowsTest(3, ThrowsTest::ten).tryAll("ten are up");
        notUp();
        numbersThatAreFree();
        Drive.finish();
    }

    /** Node 0 and 1 are up, 2 is dead; a key is held, an image kept, an act remembered, and the tape waits. */
    private static void some(Drive x) {
        x.text(6, "net 2;landmark 4 4;join 9 8 at 0 0;join 7 6 at 0 0;join 5 4 at 16 16;put 3 1");
        x.does("image").does("put", 8, 2).due(2, "go", 2, 1).refused(7, "tidy").wrongText(5, "mend;").tape("put 7 7; mend");
    }

    private static void ten(Drive x) {
        x.text(1, "net 3");
        for (int node = 0; node < 10; node++) {
            x.due(node, "join", node, 9, node * 7 % 32, node * 5 % 32);
        }
        x.due(7, "put", 0, 0).due(7, "put", 99, 999);
    }

    private static int least(String kind) {
        return kind.equals("zone") ? 1 : 0;
    }

    private int most(String kind) {
        switch (kind) {
            case "place":
            case "key":
                return 99;
            case "cell":
                return 31;
            case "node":
                return 9;
            case "reality":
                return realities - 1;
            case "value":
                return 999;
            case "zone":
                return 2047;
            case "any":
                return Integer.MAX_VALUE;
            default:
                return kind.charAt(5) - '0' - 1;
        }
    }

    private static String thrownFor(String kind) {
        if (kind.equals("node") || kind.equals("reality") || kind.equals("key")) {
            return INDEX;
        }
        return kind.startsWith("what") ? ELEMENT : ARGUMENT;
    }

    private void tryAll(String title) {
        for (String[] call : CALLS) {
            fill(call, new int[call.length - 1], 0, "");
            for (int place = 0; place < call.length - 1; place++) {
                farOut(call, place, Integer.MIN_VALUE);
                farOut(call, place, Integer.MAX_VALUE);
            }
        }
        for (int from = 0; from < names.size(); from += 100) {
            int first = from;
            Look.same(title + ": nothing changes", setUp, x -> play(x, first, Math.min(first + 100, names.size())));
        }
    }

    private void play(Drive x, int from, int to) {
        for (int i = from; i < to; i++) {
            x.due(answers.get(i), names.get(i), rows.get(i));
        }
    }

    /** All rows of least, most, one below and one above. */
    private void fill(String[] call, int[] row, int filled, String thrown) {
        if (filled == row.length) {
            add(call[0], row.clone(), thrown);
            return;
        }
        String kind = call[filled + 1];
        row[filled] = least(kind);
        fill(call, row, filled + 1, thrown);
        row[filled] = most(kind);
        fill(call, row, filled + 1, thrown);
        if (!kind.equals("any")) {
            row[filled] = least(kind) - 1;
            fill(call, row, filled + 1, thrown + thrownFor(kind));
            row[filled] = most(kind) + 1;
            fill(call, row, filled + 1, thrown + thrownFor(kind));
        }
    }

    private void farOut(String[] call, int place, int number) {
        if (call[place + 1].equals("any")) {
            return;
        }
        int[] row = new int[call.length - 1];
        for (int i = 0; i < row.length; i++) {
            row[i] = i == place ? number : most(call[i + 1]);
        }
        add(call[0], row, thrownFor(call[place + 1]));
    }

    private void add(String name, int[] row, String thrown) {
        for (String told : TOLD) {
            if (thrown.contains(told)) {
                names.add(name);
                rows.add(row);
                answers.add(told);
                return;
            }
        }
        standsOrIsRefused(name, row);
    }

    /** Numbers that are all good: an act may be refused, and a way be of a node that is not up; all else answers. */
    private void standsOrIsRefused(String name, int[] row) {
        Drive x = new Drive("within the bounds");
        setUp.accept(x);
        String answer = x.call(name, row);
        boolean mayBe = ACTS.contains(" " + name + " ") || name.equals("way") || name.equals("seek");
        if (answer.startsWith("throws.") && !(mayBe && answer.equals(STATE))) {
            x.fail(name + java.util.Arrays.toString(row) + " answered " + answer);
        }
    }

    /** "IllegalStateException: the NODE is not UP": behind all the others that are told. */
    private static void notUp() {
        Look.same("not up", ThrowsTest::some, x -> {
            for (int node : new int[] {2, 3, 9}) {
                x.state("way", node, 0, 0, 0, -1).state("way", node, 1, 31, 31, 0).state("seek", node, 0, 0).state("seek", node, 99, 4);
                x.index("way", node, 2, 0, 0, 0).argument("way", node, 0, 0, 32, 0).index("seek", node, 100, 0).element("seek", node, 0, 5);
            }
            x.due(0, "way", 0, 0, 31, 0, -1).due(-1, "seek", 0, 99, 0);
        });
    }

    /** Numbers without bounds: k of zone, heir and way, what of count, n of end, and all of feed. */
    private static void numbersThatAreFree() {
        Drive x = new Drive("free numbers");
        some(x);
        for (int far : new int[] {Integer.MIN_VALUE, -2, 10, 1000, Integer.MAX_VALUE}) {
            x.due(-1, "zone", 0, 0, far).due(-1, "heir", 0, 0, far).due(-1, "way", 0, 0, 31, 0, far).due(-1, "count", far);
        }
        x.due(false, "end", Integer.MIN_VALUE).due(false, "end", Integer.MAX_VALUE);
        x.due(33, "feed", Integer.MIN_VALUE, Integer.MAX_VALUE, -1, 0, 1).due(true, "end", 13).due(2, "acts");
    }
}
