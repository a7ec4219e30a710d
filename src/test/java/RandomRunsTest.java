import java.util.ArrayList;
import java.util.List;
import java.util.Random;

/** Long runs of calls by chance (always the same ones), answered by the class and by the plain model alike. */
public final class RandomRunsTest {
    private static final int RUNS = 240;
    private static final int CALLS = 500;

    private final Random random;
    private final int run;
    private final Drive real;
    private final Drive model;
    private final List<String> log = new ArrayList<>();
    private final int spread;
    private final int calm;
    private boolean differs = false;

    private RandomRunsTest(int run) {
        this.run = run;
        this.random = new Random(run);
        this.real = new Drive("run " + run);
        this.model = new Drive("model " + run, new Model());
        this.spread = new int[] {32, 32, 12, 4, 2}[run % 5];
        this.calm = run % 3;
    }

    private int below(int bound) {
        return random.nextInt(bound);
    }

    private void both(String name, int... args) {
        String got = real.call(name, args);
        String due = model.call(name, args);
        log.add(name + java.util.Arrays.toString(args) + " " + got);
        if (!got.equals(due)) {
            differs = true;
            for (String line : log) {
                if (!line.startsWith("feed") && !line.startsWith("end")) {
                    System.out.println("  " + line);
                }
            }
            real.fail("answered " + got + ", the model " + due);
        }
    }

    /** Mostly a number that is one, at times one beside the bounds. */
    private int about(int bound) {
        return below(40) == 0 ? below(2) == 0 ? -1 - below(2) : bound + below(2) : below(bound);
    }

    private int coordinate() {
        return below(8) == 0 ? below(32) : below(spread);
    }

    private void act() {
        switch (below(15)) {
            case 0: case 1: case 2: case 3:
                both("join", about(100), about(100), coordinate(), coordinate());
                break;
            case 4:
                both("near", about(100), about(100));
                break;
            case 5: case 6:
                both("go", about(10), 0);
                break;
            case 7:
                both("go", about(10), below(calm + 1) == 0 ? 0 : 1);
                break;
            case 8:
                for (int i = 0; i < 3; i++) {
                    both("go", below(10), 2);
                }
                break;
            case 9:
                if (below(6) == 0) {
                    both("tidy");
                }
                break;
            case 10: case 11:
                both("put", about(100), about(1000));
                break;
            case 12:
                both("mend");
                break;
            case 13:
                both("cut", about(100));
                break;
            default:
                both("undo");
        }
    }

    private void text() {
        StringBuilder text = new StringBuilder();
        int many = below(10) == 0 ? 13 + below(4) : 1 + below(4);
        for (int i = 0; i < many; i++) {
            text.append(i == 0 ? "" : below(3) == 0 ? " ; " : ";").append(actText());
        }
        if (below(4) == 0) {
            int at = below(text.length() + 1);
            String[] slips = {" ", ";", "0", "9", "a", "at", "\u00e9", "near", "tidy", "  ", "~", "00", ""};
            String slip = slips[below(slips.length)];
            if (slip.isEmpty()) {
                text.setLength(at);
            } else {
                text.insert(at, slip);
            }
        }
        String whole = text.substring(0, Math.min(400, text.length()));
        feed(whole);
        both("acts");
        both("fault");
        both("why");
    }

    private void feed(String text) {
        for (int from = 0; from < text.length(); from += 20) {
            int[] row = new int[5];
            for (int i = 0; i < 20; i++) {
                int one = from + i < text.length() ? text.charAt(from + i) : 0;
                row[i / 4] |= one << 24 - i % 4 * 8;
            }
            both("feed", row);
        }
        both("end", text.length());
    }

    private String actText() {
        switch (below(calm == 0 ? 11 : 12)) {
            case 0:
                return "landmark " + below(100) + " " + below(100);
            case 1: case 2: case 3:
                return "join " + below(100) + " " + below(100) + "at" + coordinate() + " " + coordinate();
            case 4: case 5:
                return "join " + below(100) + " " + below(100) + " near";
            case 6:
                return "leave " + below(10);
            case 7:
                return below(2) == 0 ? "mend" : "crash" + below(10);
            case 8:
                return "put " + below(100) + "  " + below(1000);
            case 9:
                return below(2) == 0 ? "tidy" : "notice " + below(10);
            case 10:
                return below(2) == 0 ? "cut " + below(100) : "mend";
            default:
                return below(3) == 0 ? "net " + (1 + below(3)) : "put 7 7";
        }
    }

    private void ask() {
        int r = about(3);
        int n = about(10);
        int k = about(100);
        switch (below(18)) {
            case 0: both("node", n, about(3)); break;
            case 1: case 2: both("held", n, r, about(5)); break;
            case 3: both("zone", n, r, about(4)); break;
            case 4: both("box", about(2048), about(5)); break;
            case 5: both("cell", r, about(32), about(32), about(2)); break;
            case 6: both("heir", n, r, about(4)); break;
            case 7: both("key", k, about(2)); break;
            case 8: both("point", k, r, about(3)); break;
            case 9: case 10: both("way", n, r, about(32), about(32), below(5) - 1); break;
            case 11: case 12: both("seek", n, k, about(5)); break;
            case 13: both("risk", n); break;
            case 14: both("order", about(100), about(100)); break;
            case 15: both("reality", r, about(6)); break;
            case 16: both("ways", r, about(4)); break;
            default: both("friends", n);
        }
    }

    private void askAll() {
        for (int what = 0; what < 9; what++) {
            both("count", what);
        }
        for (int r = 0; r < 3; r++) {
            for (int what = 0; what < 6; what++) {
                both("reality", r, what);
            }
            for (int what = 0; what < 4; what++) {
                both("ways", r, what);
            }
            for (int n = 0; n < 10; n++) {
                for (int what = 0; what < 5; what++) {
                    both("held", n, r, what);
                }
                for (int k = 0; k < 3; k++) {
                    both("heir", n, r, k);
                    both("zone", n, r, k);
                }
                both("way", n, r, below(32), below(32), below(4) - 1);
            }
        }
        for (int n = 0; n < 10; n++) {
            both("risk", n);
            both("friends", n);
            for (int what = 0; what < 5; what++) {
                both("seek", n, below(100), what);
            }
        }
    }

    private void play() {
        for (int i = 0; i < run % 4; i++) {
            feed("net " + (1 + i));
            both("acts");
        }
        if (run % 2 == 0) {
            feed("landmark 10 10; landmark 90 10; landmark 50 90");
            both("acts");
        }
        for (int i = 0; i < CALLS && !differs; i++) {
            int chance = below(40);
            if (chance < 16) {
                act();
            } else if (chance == 16) {
                text();
            } else if (chance == 17) {
                both(below(4) == 0 ? "image" : below(3) == 0 ? "back" : "why");
            } else {
                ask();
            }
        }
        if (!differs) {
            askAll();
        }
    }

    public static void main(String[] args) {
        int first = args.length > 0 ? Integer.parseInt(args[0]) : 0;
        int runs = args.length > 1 ? Integer.parseInt(args[1]) : RUNS;
        for (int run = first; run < first + runs; run++) {
            new RandomRunsTest(run).play();
        }
        Drive.finish();
    }
}
