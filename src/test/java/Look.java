import java.util.ArrayList;
import java.util.Arrays;
import java.util.LinkedHashMap;
import java.util.List;
import java.util.Map;
import java.util.function.Consumer;

/**
 * All that can be asked of an object behind some calls, row by row: now, going back to the image, taking back act by
 * act, and by what waits on the tape. The calls are played on new objects again and again, as one object is good for
 * 512 calls alone.
 */
final class Look {
    private static final int ASKED_OF_ONE = 300;

    private final Consumer<Drive> calls;
    private final Map<String, String> rows = new LinkedHashMap<>();

    private Look(Consumer<Drive> calls) {
        this.calls = calls;
    }

    static Map<String, String> behind(Consumer<Drive> calls) {
        Look look = new Look(calls);
        look.askAll();
        look.goBack();
        look.takeBack();
        look.readTape();
        return look.rows;
    }

    /** Fails, if a further call changes a row, but for those told. */
    static void same(String title, Consumer<Drive> ahead, Consumer<Drive> call, String... but) {
        differences(title, behind(ahead), behind(ahead.andThen(call)), but);
    }

    /** Fails, if two runs of calls do not end alike, but for the rows told. */
    static void alike(String title, Consumer<Drive> one, Consumer<Drive> other, String... but) {
        differences(title, behind(one), behind(other), but);
    }

    private static void differences(String title, Map<String, String> one, Map<String, String> other, String... but) {
        Drive drive = new Drive(title);
        if (one.size() != other.size()) {
            drive.fail("there are " + other.size() + " rows in place of " + one.size());
        }
        int shown = 0;
        for (Map.Entry<String, String> row : one.entrySet()) {
            if (!Arrays.asList(but).contains(row.getKey()) && !row.getValue().equals(other.get(row.getKey())) && shown < 5) {
                drive.fail(row.getKey() + " is " + other.get(row.getKey()) + ", was " + row.getValue());
                shown++;
            }
        }
    }

    private Drive anew() {
        Drive drive = new Drive("look");
        calls.accept(drive);
        return drive;
    }

    private void askAll() {
        int realities = Integer.parseInt(anew().call("count", 0));
        List<String> names = new ArrayList<>();
        List<int[]> numbers = new ArrayList<>();
        questions(realities, names, numbers);
        Drive drive = null;
        for (int i = 0; i < names.size(); i++) {
            if (i % ASKED_OF_ONE == 0) {
                drive = anew();
            }
            rows.put(names.get(i) + Arrays.toString(numbers.get(i)), drive.call(names.get(i), numbers.get(i)));
        }
    }

    private static void questions(int realities, List<String> names, List<int[]> numbers) {
        ask(names, numbers, "why");
        ask(names, numbers, "fault");
        for (int what = 0; what <= 7; what++) {
            ask(names, numbers, "count", what);
        }
        for (int place = 0; place < 100; place += 9) {
            ask(names, numbers, "order", place, 99 - place * place % 100);
        }
        for (int key = 0; key < 100; key++) {
            ask(names, numbers, "key", key, 0);
            ask(names, numbers, "key", key, 1);
        }
        for (int node = 0; node < 10; node++) {
            for (int what = 0; what < 3; what++) {
                ask(names, numbers, "node", node, what);
            }
            ask(names, numbers, "risk", node);
            ask(names, numbers, "friends", node);
            ask(names, numbers, "seek", node, 3, 0);
            ask(names, numbers, "seek", node, 8, 1);
        }
        for (int r = 0; r < realities; r++) {
            questionsOf(r, names, numbers);
        }
    }

    private static void questionsOf(int r, List<String> names, List<int[]> numbers) {
        for (int node = 0; node < 10; node++) {
            for (int what = 0; what < 5; what++) {
                ask(names, numbers, "held", node, r, what);
            }
            for (int k = 0; k < 5; k++) {
                ask(names, numbers, "zone", node, r, k);
                ask(names, numbers, "heir", node, r, k);
            }
            ask(names, numbers, "way", node, r, 17, 14, -1);
        }
        for (int what = 0; what < 6; what++) {
            ask(names, numbers, "reality", r, what);
        }
        for (int what = 0; what < 4; what++) {
            ask(names, numbers, "ways", r, what);
        }
        for (int side = 0; side < 32; side += 5) {
            ask(names, numbers, "cell", r, side, 31 - side, 0);
            ask(names, numbers, "cell", r, side, side, 1);
        }
    }

    private static void ask(List<String> names, List<int[]> numbers, String name, int... row) {
        names.add(name);
        numbers.add(row);
    }

    private void goBack() {
        Drive drive = anew();
        rows.put("back", drive.call("back"));
        rows.put("image", inShort(drive));
    }

    private void takeBack() {
        for (int steps = 1; steps <= 9; steps++) {
            Drive drive = anew();
            String answer = "";
            for (int step = 0; step < steps; step++) {
                answer = drive.call("undo");
            }
            rows.put("undo " + steps, answer + " " + inShort(drive));
        }
    }

    private void readTape() {
        rows.put("tape", anew().call("feed", 0, 0, 0, 0, 0));
        Drive drive = anew();
        rows.put("acts", drive.call("acts") + " " + drive.call("fault"));
        rows.put("behind acts", inShort(drive));
    }

    /** Nodes, zones and keys, in some 170 calls. */
    private static String inShort(Drive drive) {
        StringBuilder text = new StringBuilder();
        int realities = Integer.parseInt(drive.call("count", 0));
        for (int what = 0; what <= 7; what++) {
            text.append(drive.call("count", what)).append(' ');
        }
        for (int node = 0; node < 10; node++) {
            text.append("| ").append(drive.call("node", node, 1)).append(' ').append(drive.call("node", node, 2));
            for (int r = 0; r < realities; r++) {
                text.append(' ').append(drive.call("zone", node, r, 0)).append(' ').append(drive.call("held", node, r, 1));
            }
        }
        for (int key = 0; key < 40; key++) {
            text.append(' ').append(drive.call("key", key, 0)).append(' ').append(drive.call("key", key, 1));
        }
        return text.toString();
    }
}
