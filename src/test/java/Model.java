import java.nio.charset.StandardCharsets;
import java.util.ArrayDeque;
import java.util.ArrayList;
import java.util.Deque;
import java.util.List;
import java.util.NoSuchElementException;
import java.util.TreeMap;
import java.util.TreeSet;

/** The document once more, written as plainly and as slowly as can be, over sets of cells: to compare with. */
final class Model {
    static final int NONE = -1;

    static final class World {
        int realities = 1;
        int[] status = new int[10];
        int[] px = new int[10];
        int[] py = new int[10];
        List<int[]> landmarks = new ArrayList<>();
        List<TreeMap<Integer, Integer>> zones = new ArrayList<>();
        TreeMap<Integer, Integer> values = new TreeMap<>();
        TreeMap<Integer, TreeSet<Integer>> held = new TreeMap<>();

        World(int realities) {
            this.realities = realities;
            for (int r = 0; r < realities; r++) {
                zones.add(new TreeMap<>());
            }
        }

        World copy() {
            World other = new World(realities);
            other.status = status.clone();
            other.px = px.clone();
            other.py = py.clone();
            other.landmarks = new ArrayList<>(landmarks);
            for (int r = 0; r < realities; r++) {
                other.zones.get(r).putAll(zones.get(r));
            }
            other.values.putAll(values);
            held.forEach((k, v) -> other.held.put(k, new TreeSet<>(v)));
            return other;
        }
    }

    static final class Refused extends RuntimeException {
        private static final long serialVersionUID = 1L;
        final int number;

        Refused(int number) {
            this.number = number;
        }
    }

    private World w = new World(1);
    private final Deque<World> past = new ArrayDeque<>();
    private World image = null;
    private byte[] tape = new byte[0];
    private int fault = NONE;
    private int why = 0;

    // ---- zones as sets of cells ----

    private static final int[][] BOXES = new int[2048][];

    static int[] boxOf(int zone) {
        if (BOXES[zone] == null) {
            if (zone == 1) {
                BOXES[1] = new int[] {0, 0, 0, 32, 32};
            } else {
                int[] b = boxOf(zone / 2).clone();
                int side = b[0] % 2 == 0 ? 0 : 1;
                b[3 + side] /= 2;
                if (zone % 2 == 1) {
                    b[1 + side] += b[3 + side];
                }
                b[0]++;
                BOXES[zone] = b;
            }
        }
        return BOXES[zone];
    }

    static boolean inside(int zone, int x, int y) {
        int[] b = boxOf(zone);
        return x >= b[1] && x < b[1] + b[3] && y >= b[2] && y < b[2] + b[4];
    }

    private int zoneOfCell(int r, int x, int y) {
        for (int z : w.zones.get(r).keySet()) {
            if (inside(z, x, y)) {
                return z;
            }
        }
        return NONE;
    }

    private int nodeOfCell(int r, int x, int y) {
        int z = zoneOfCell(r, x, y);
        return z == NONE ? NONE : w.zones.get(r).get(z);
    }

    private List<Integer> zonesOf(int node, int r) {
        List<Integer> list = new ArrayList<>();
        w.zones.get(r).forEach((z, n) -> {
            if (n == node) {
                list.add(z);
            }
        });
        return list;
    }

    private int volume(int node, int r) {
        int sum = 0;
        for (int z : zonesOf(node, r)) {
            sum += boxOf(z)[3] * boxOf(z)[4];
        }
        return sum;
    }

    private int[][] grid(int r) {
        int[][] grid = new int[32][32];
        w.zones.get(r).forEach((z, n) -> {
            int[] b = boxOf(z);
            for (int x = b[1]; x < b[1] + b[3]; x++) {
                for (int y = b[2]; y < b[2] + b[4]; y++) {
                    grid[x][y] = n;
                }
            }
        });
        return grid;
    }

    private static boolean zonesBeside(int one, int other) {
        int[] a = boxOf(one);
        for (int x = a[1]; x < a[1] + a[3]; x++) {
            for (int y = a[2]; y < a[2] + a[4]; y++) {
                if (inside(other, (x + 1) % 32, y) || inside(other, (x + 31) % 32, y)
                        || inside(other, x, (y + 1) % 32) || inside(other, x, (y + 31) % 32)) {
                    return true;
                }
            }
        }
        return false;
    }

    private boolean[][] besideNodes(int r) {
        boolean[][] beside = new boolean[10][10];
        if (w.zones.get(r).isEmpty()) {
            return beside;
        }
        int[][] grid = grid(r);
        for (int x = 0; x < 32; x++) {
            for (int y = 0; y < 32; y++) {
                int here = grid[x][y];
                for (int other : new int[] {grid[(x + 1) % 32][y], grid[x][(y + 1) % 32]}) {
                    if (other != here) {
                        beside[here][other] = true;
                        beside[other][here] = true;
                    }
                }
            }
        }
        return beside;
    }

    private static int ring(int a, int b) {
        int d = Math.abs(a - b);
        return Math.min(d, 32 - d);
    }

    private int[] farOfAll(int r, int x, int y) {
        int[] far = new int[10];
        java.util.Arrays.fill(far, 1000);
        if (w.zones.get(r).isEmpty()) {
            return far;
        }
        int[][] grid = grid(r);
        for (int cx = 0; cx < 32; cx++) {
            for (int cy = 0; cy < 32; cy++) {
                int n = grid[cx][cy];
                far[n] = Math.min(far[n], ring(cx, x) + ring(cy, y));
            }
        }
        return far;
    }

    private void merge(int r) {
        TreeMap<Integer, Integer> zones = w.zones.get(r);
        boolean again = true;
        while (again) {
            again = false;
            for (int z : new ArrayList<>(zones.keySet())) {
                if (z % 2 == 0 && zones.containsKey(z) && zones.containsKey(z + 1)
                        && zones.get(z).equals(zones.get(z + 1))) {
                    int n = zones.get(z);
                    zones.remove(z);
                    zones.remove(z + 1);
                    zones.put(z / 2, n);
                    again = true;
                }
            }
        }
    }

    // ---- acts ----

    private int countOf(int status) {
        int many = 0;
        for (int s : w.status) {
            many += s == status ? 1 : 0;
        }
        return many;
    }

    private void refuse(boolean when, int number) {
        if (when) {
            throw new Refused(number);
        }
    }

    private int doJoin(int px, int py, int x, int y) {
        int node = 0;
        while (node < 10 && w.status[node] != 0) {
            node++;
        }
        refuse(node == 10, 1);
        boolean empty = countOf(0) == 10;
        if (!empty) {
            for (int number = 2; number <= 3; number++) {
                for (int r = 0; r < w.realities; r++) {
                    int z = zoneOfCell(r, (x + 11 * r) % 32, (y + 7 * r) % 32);
                    refuse(number == 2 && boxOf(z)[0] == 10, 2);
                    refuse(number == 3 && w.status[w.zones.get(r).get(z)] == 2, 3);
                }
            }
        }
        w.status[node] = 1;
        w.px[node] = px;
        w.py[node] = py;
        for (int r = 0; r < w.realities; r++) {
            TreeMap<Integer, Integer> zones = w.zones.get(r);
            if (empty) {
                zones.put(1, node);
                continue;
            }
            int cx = (x + 11 * r) % 32;
            int cy = (y + 7 * r) % 32;
            int z = zoneOfCell(r, cx, cy);
            int had = zones.remove(z);
            boolean first = inside(2 * z, cx, cy);
            zones.put(2 * z, first ? node : had);
            zones.put(2 * z + 1, first ? had : node);
        }
        return node;
    }

    private int doNear(int px, int py) {
        int orders = new int[] {1, 1, 2, 6}[w.landmarks.size()];
        return doJoin(px, py, 32 / orders * orderNumber(px, py), (px + py) % 32);
    }

    private int orderNumber(int px, int py) {
        int n = w.landmarks.size();
        List<Integer> row = new ArrayList<>();
        for (int i = 0; i < n; i++) {
            row.add(i);
        }
        row.sort((a, b) -> {
            int[] la = w.landmarks.get(a);
            int[] lb = w.landmarks.get(b);
            int da = Math.abs(la[0] - px) + Math.abs(la[1] - py);
            int db = Math.abs(lb[0] - px) + Math.abs(lb[1] - py);
            return da != db ? Integer.compare(da, db) : Integer.compare(a, b);
        });
        List<String> all = new ArrayList<>();
        rows("", n, all);
        StringBuilder mine = new StringBuilder();
        for (int i : row) {
            mine.append(i);
        }
        return all.indexOf(mine.toString());
    }

    private static void rows(String begun, int n, List<String> all) {
        if (begun.length() == n) {
            all.add(begun);
            return;
        }
        for (int i = 0; i < n; i++) {
            if (begun.indexOf('0' + i) < 0) {
                rows(begun + i, n, all);
            }
        }
    }

    private int heirOfZone(int node, int r, int z) {
        TreeMap<Integer, Integer> zones = w.zones.get(r);
        int best = NONE;
        for (int kind = 0; kind < 3 && best == NONE; kind++) {
            for (int n = 0; n < 10; n++) {
                if (n == node || w.status[n] != 1) {
                    continue;
                }
                boolean fits = kind == 2;
                for (int q : zonesOf(n, r)) {
                    fits |= kind == 0 && z > 1 && q == (z ^ 1);
                    fits |= kind == 1 && zonesBeside(z, q);
                }
                if (fits && (best == NONE || volume(n, r) < volume(best, r))) {
                    best = n;
                }
            }
        }
        return best;
    }

    private void handAll(int node) {
        boolean last = countOf(0) == 9;
        for (int r = 0; r < w.realities; r++) {
            for (int z : zonesOf(node, r)) {
                if (last) {
                    w.zones.get(r).remove(z);
                } else {
                    w.zones.get(r).put(z, heirOfZone(node, r, z));
                    merge(r);
                }
            }
        }
        w.status[node] = 0;
        if (last) {
            w.held.values().forEach(TreeSet::clear);
        }
    }

    private int doGo(int node, int how) {
        boolean otherUp = false;
        boolean otherDead = false;
        for (int n = 0; n < 10; n++) {
            otherUp |= n != node && w.status[n] == 1;
            otherDead |= n != node && w.status[n] == 2;
        }
        if (how == 2) {
            refuse(w.status[node] != 2, 5);
        } else {
            refuse(w.status[node] != 1, 4);
        }
        if (how == 1) {
            w.status[node] = 2;
            for (int key : w.values.keySet()) {
                w.held.get(key).removeIf(r -> pointNode(key, r) == node);
            }
        } else {
            refuse(otherDead && !otherUp, 6);
            handAll(node);
        }
        return countOf(1);
    }

    private int doTidy() {
        refuse(countOf(2) > 0, 7);
        int fewer = 0;
        for (int r = 0; r < w.realities; r++) {
            fewer += w.zones.get(r).size();
            while (tidyOnce(r)) {
                merge(r);
            }
            fewer -= w.zones.get(r).size();
        }
        return fewer;
    }

    private boolean tidyOnce(int r) {
        TreeMap<Integer, Integer> zones = w.zones.get(r);
        for (int n = 0; n < 10; n++) {
            List<Integer> mine = zonesOf(n, r);
            if (mine.size() > 1) {
                int stray = mine.get(0);
                for (int z : mine) {
                    if (boxOf(z)[0] > boxOf(stray)[0] || boxOf(z)[0] == boxOf(stray)[0] && z > stray) {
                        stray = z;
                    }
                }
                int other = stray % 2 == 0 ? stray + 1 : stray - 1;
                if (zones.containsKey(other)) {
                    zones.put(stray, zones.get(other));
                    return true;
                }
                int best = NONE;
                for (int q = 1; q < 1024; q++) {
                    int up = q;
                    while (up > other) {
                        up /= 2;
                    }
                    if (up == other && zones.containsKey(2 * q) && zones.containsKey(2 * q + 1)
                            && (best == NONE || boxOf(q)[0] > boxOf(best)[0])) {
                        best = q;
                    }
                }
                int spared = zones.get(2 * best + 1);
                zones.put(2 * best + 1, zones.get(2 * best));
                zones.put(stray, spared);
                return true;
            }
        }
        return false;
    }

    private static int pointValue(int key, int r) {
        return (key + 1) * (397 + 214 * r) % 1024;
    }

    private int pointNode(int key, int r) {
        return nodeOfCell(r, pointValue(key, r) % 32, pointValue(key, r) / 32);
    }

    private boolean pointUp(int key, int r) {
        int n = pointNode(key, r);
        return n != NONE && w.status[n] == 1;
    }

    private int bitsOf(Iterable<Integer> set) {
        int bits = 0;
        for (int i : set) {
            bits |= 1 << i;
        }
        return bits;
    }

    private int doPut(int key, int value) {
        TreeSet<Integer> in = new TreeSet<>();
        for (int r = 0; r < w.realities; r++) {
            if (pointUp(key, r)) {
                in.add(r);
            }
        }
        refuse(in.isEmpty(), 8);
        w.values.put(key, value);
        w.held.put(key, in);
        return bitsOf(in);
    }

    private int doCut(int key) {
        refuse(!w.values.containsKey(key), 9);
        w.held.remove(key);
        return w.values.remove(key);
    }

    private int doMend() {
        int many = 0;
        for (int key : w.values.keySet()) {
            TreeSet<Integer> in = w.held.get(key);
            if (!in.isEmpty()) {
                for (int r = 0; r < w.realities; r++) {
                    if (pointUp(key, r) && in.add(r)) {
                        many++;
                    }
                }
            }
        }
        return many;
    }

    private interface Doing {
        int run();
    }

    private int byCall(Doing doing) {
        World before = w.copy();
        try {
            int answer = doing.run();
            past.addLast(before);
            if (past.size() > 8) {
                past.removeFirst();
            }
            why = 0;
            return answer;
        } catch (Refused e) {
            w = before;
            why = e.number;
            throw new IllegalStateException();
        }
    }

    // ---- the face ----

    int feed(int a, int b, int c, int d, int e) {
        if (tape.length + 20 > 400) {
            return NONE;
        }
        byte[] longer = java.util.Arrays.copyOf(tape, tape.length + 20);
        java.nio.ByteBuffer.wrap(longer, tape.length, 20).putInt(a).putInt(b).putInt(c).putInt(d).putInt(e);
        tape = longer;
        return tape.length;
    }

    boolean end(int n) {
        if (n < 0 || n > tape.length) {
            return false;
        }
        tape = java.util.Arrays.copyOf(tape, n);
        return true;
    }

    /** A thing of a text: its begin, and itself. */
    private record Thing(int begin, String text) {
    }

    private static List<Thing> things(String text) {
        List<Thing> list = new ArrayList<>();
        java.util.regex.Matcher m = java.util.regex.Pattern.compile("[a-z]+|[0-9]+|[^ ]", java.util.regex.Pattern.DOTALL).matcher(text);
        while (m.find()) {
            list.add(new Thing(m.start(), m.group()));
        }
        list.add(new Thing(text.length(), ""));
        return list;
    }

    private List<Thing> things;
    private int next;

    private static final class Wrong extends RuntimeException {
        private static final long serialVersionUID = 1L;
        final int at;

        Wrong(int at) {
            this.at = at;
        }
    }

    private String word() {
        return things.get(next).text();
    }

    private int number(int least, int most) {
        Thing t = things.get(next);
        if (!t.text().matches("[0-9]{1,3}") || Integer.parseInt(t.text()) < least || Integer.parseInt(t.text()) > most) {
            throw new Wrong(t.begin());
        }
        next++;
        return Integer.parseInt(t.text());
    }

    private Doing readAct() {
        int begin = things.get(next).begin();
        String word = word();
        next++;
        switch (word) {
            case "net": {
                int n = number(1, 3);
                return () -> {
                    w = new World(n);
                    return 0;
                };
            }
            case "landmark": {
                int x = number(0, 99);
                int y = number(0, 99);
                return () -> {
                    refuse(w.landmarks.size() == 3, 10);
                    w.landmarks.add(new int[] {x, y});
                    return 0;
                };
            }
            case "join": {
                int px = number(0, 99);
                int py = number(0, 99);
                if (word().equals("near")) {
                    next++;
                    return () -> doNear(px, py);
                }
                if (!word().equals("at")) {
                    throw new Wrong(things.get(next).begin());
                }
                next++;
                int x = number(0, 31);
                int y = number(0, 31);
                return () -> doJoin(px, py, x, y);
            }
            case "leave":
            case "crash":
            case "notice": {
                int n = number(0, 9);
                int how = word.equals("leave") ? 0 : word.equals("crash") ? 1 : 2;
                return () -> doGo(n, how);
            }
            case "tidy":
                return this::doTidy;
            case "put": {
                int key = number(0, 99);
                int value = number(0, 999);
                return () -> doPut(key, value);
            }
            case "cut": {
                int key = number(0, 99);
                return () -> doCut(key);
            }
            case "mend":
                return this::doMend;
            default:
                throw new Wrong(begin);
        }
    }

    int acts() {
        things = things(new String(tape, StandardCharsets.ISO_8859_1));
        next = 0;
        tape = new byte[0];
        World before = w.copy();
        int done = 0;
        int begin = 0;
        try {
            if (!word().isEmpty()) {
                while (true) {
                    begin = things.get(next).begin();
                    if (done == 14) {
                        throw new Wrong(begin);
                    }
                    readAct().run();
                    done++;
                    if (word().isEmpty()) {
                        break;
                    }
                    if (!word().equals(";")) {
                        throw new Wrong(things.get(next).begin());
                    }
                    next++;
                }
            }
        } catch (Wrong e) {
            w = before;
            fault = e.at;
            throw new IllegalArgumentException();
        } catch (Refused e) {
            w = before;
            fault = begin;
            why = e.number;
            throw new IllegalArgumentException();
        }
        fault = NONE;
        past.clear();
        if (done > 0) {
            why = 0;
        }
        return done;
    }

    int fault() {
        return fault;
    }

    int why() {
        return why;
    }

    private static void argument(boolean fine) {
        if (!fine) {
            throw new IllegalArgumentException();
        }
    }

    private static void what(int what, int most) {
        if (what < 0 || what > most) {
            throw new NoSuchElementException();
        }
    }

    private static void index(boolean fine) {
        if (!fine) {
            throw new IndexOutOfBoundsException();
        }
    }

    private static boolean in(int i, int most) {
        return 0 <= i && i <= most;
    }

    int join(int px, int py, int x, int y) {
        argument(in(px, 99) && in(py, 99) && in(x, 31) && in(y, 31));
        return byCall(() -> doJoin(px, py, x, y));
    }

    int near(int px, int py) {
        argument(in(px, 99) && in(py, 99));
        return byCall(() -> doNear(px, py));
    }

    int go(int node, int how) {
        index(in(node, 9));
        what(how, 2);
        return byCall(() -> doGo(node, how));
    }

    int tidy() {
        return byCall(this::doTidy);
    }

    int put(int key, int value) {
        index(in(key, 99));
        argument(in(value, 999));
        return byCall(() -> doPut(key, value));
    }

    int cut(int key) {
        index(in(key, 99));
        return byCall(() -> doCut(key));
    }

    int mend() {
        return byCall(this::doMend);
    }

    int undo() {
        if (past.isEmpty()) {
            throw new IllegalStateException();
        }
        w = past.removeLast();
        return past.size();
    }

    int node(int node, int what) {
        index(in(node, 9));
        what(what, 2);
        if (what == 0) {
            return w.status[node];
        }
        return w.status[node] == 0 ? NONE : what == 1 ? w.px[node] : w.py[node];
    }

    private int besideBits(int node, int r) {
        boolean[] row = besideNodes(r)[node];
        int bits = 0;
        for (int n = 0; n < 10; n++) {
            bits |= row[n] ? 1 << n : 0;
        }
        return bits;
    }

    private int hub(int r) {
        int hub = NONE;
        for (int n = 9; n >= 0; n--) {
            if (w.status[n] == 1 && (hub == NONE
                    || Integer.bitCount(besideBits(n, r)) >= Integer.bitCount(besideBits(hub, r)))) {
                hub = n;
            }
        }
        return hub;
    }

    int held(int node, int reality, int what) {
        index(in(node, 9) && in(reality, w.realities - 1));
        what(what, 4);
        if (what == 3) {
            int load = 0;
            for (int key : w.values.keySet()) {
                load += w.held.get(key).contains(reality) && pointNode(key, reality) == node ? 1 : 0;
            }
            return load;
        }
        return what == 0 ? zonesOf(node, reality).size() : what == 1 ? volume(node, reality)
            : what == 2 ? besideBits(node, reality) : hub(reality) == node ? 1 : 0;
    }

    int zone(int node, int reality, int k) {
        index(in(node, 9) && in(reality, w.realities - 1));
        List<Integer> list = zonesOf(node, reality);
        return k >= 0 && k < list.size() ? list.get(k) : NONE;
    }

    int box(int zone, int what) {
        argument(zone >= 1 && zone <= 2047);
        what(what, 4);
        return boxOf(zone)[what];
    }

    int cell(int reality, int x, int y, int what) {
        index(in(reality, w.realities - 1));
        argument(in(x, 31) && in(y, 31));
        what(what, 1);
        return what == 0 ? zoneOfCell(reality, x, y) : nodeOfCell(reality, x, y);
    }

    int heir(int node, int reality, int k) {
        int z = zone(node, reality, k);
        return z == NONE ? NONE : heirOfZone(node, reality, z);
    }

    int key(int key, int what) {
        index(in(key, 99));
        what(what, 1);
        if (!w.values.containsKey(key)) {
            return what == 0 ? NONE : 0;
        }
        return what == 0 ? w.values.get(key) : bitsOf(w.held.get(key));
    }

    int point(int key, int reality, int what) {
        index(in(key, 99) && in(reality, w.realities - 1));
        what(what, 2);
        int v = pointValue(key, reality);
        return what == 0 ? v % 32 : what == 1 ? v / 32 : pointNode(key, reality);
    }

    private boolean stuck;

    /** The way by rows of realities, how far each node is in each, and who is beside whom there. */
    private List<Integer> wayOf(int node, List<Integer> in, int[][] far, boolean[][][] beside) {
        List<Integer> path = new ArrayList<>();
        path.add(node);
        stuck = false;
        while (true) {
            int here = path.get(path.size() - 1);
            int own = 1000;
            for (int r : in) {
                own = Math.min(own, far[r][here]);
            }
            if (own == 0) {
                return path;
            }
            List<int[]> others = new ArrayList<>();
            for (int r : in) {
                for (int n = 0; n < 10; n++) {
                    if (w.status[n] == 1 && beside[r][here][n]) {
                        others.add(new int[] {far[r][n], r, n});
                    }
                }
            }
            others.sort((a, b) -> a[0] != b[0] ? a[0] - b[0] : a[1] != b[1] ? a[1] - b[1] : a[2] - b[2]);
            if (others.isEmpty() || others.get(0)[0] >= own) {
                stuck = true;
                return path;
            }
            path.add(others.get(0)[2]);
        }
    }

    private List<Integer> wayTo(int node, int r, int x, int y) {
        int[][] far = new int[3][];
        boolean[][][] beside = new boolean[3][][];
        far[r] = farOfAll(r, x, y);
        beside[r] = besideNodes(r);
        return wayOf(node, List.of(r), far, beside);
    }

    private void up(int node) {
        if (w.status[node] != 1) {
            throw new IllegalStateException();
        }
    }

    int way(int node, int reality, int x, int y, int k) {
        index(in(node, 9) && in(reality, w.realities - 1));
        argument(in(x, 31) && in(y, 31));
        up(node);
        List<Integer> path = wayTo(node, reality, x, y);
        if (k == NONE) {
            return stuck ? NONE : path.size() - 1;
        }
        return k >= 0 && k < path.size() ? path.get(k) : NONE;
    }

    private int apart(int a, int b) {
        return Math.abs(w.px[a] - w.px[b]) + Math.abs(w.py[a] - w.py[b]);
    }

    int seek(int node, int key, int what) {
        index(in(node, 9) && in(key, 99));
        what(what, 4);
        up(node);
        List<Integer> in = new ArrayList<>(w.held.getOrDefault(key, new TreeSet<>()));
        int[][] far = new int[3][];
        boolean[][][] beside = new boolean[3][][];
        for (int r : in) {
            far[r] = farOfAll(r, pointValue(key, r) % 32, pointValue(key, r) / 32);
            beside[r] = besideNodes(r);
        }
        List<Integer> path = wayOf(node, in, far, beside);
        int delay = 0;
        for (int i = 1; i < path.size(); i++) {
            delay += apart(path.get(i - 1), path.get(i));
        }
        int last = path.get(path.size() - 1);
        int straight = apart(node, last);
        int common = java.math.BigInteger.valueOf(delay).gcd(java.math.BigInteger.valueOf(straight)).intValue();
        switch (what) {
            case 0:
                return stuck ? NONE : path.size() - 1;
            case 1:
                return delay;
            case 2:
                return last;
            case 3:
                return common == 0 ? 1 : delay / common;
            default:
                return common == 0 ? 1 : straight / common;
        }
    }

    int risk(int node) {
        index(in(node, 9));
        int many = 0;
        for (int key : w.values.keySet()) {
            boolean all = !w.held.get(key).isEmpty();
            for (int r : w.held.get(key)) {
                all &= pointNode(key, r) == node;
            }
            many += all ? 1 : 0;
        }
        return many;
    }

    int order(int px, int py) {
        argument(in(px, 99) && in(py, 99));
        return orderNumber(px, py);
    }

    /** HOPS of each way from the first to the last node; NONE of one that is stuck or none. */
    private int[][] allWays(int r, int without) {
        int[][] hops = new int[10][10];
        boolean[][][] beside = new boolean[3][][];
        beside[r] = besideNodes(r);
        int[][] far = new int[3][];
        for (int b = 0; b < 10; b++) {
            if (w.status[b] == 1) {
                int[] box = boxOf(zonesOf(b, r).get(0));
                far[r] = farOfAll(r, box[1], box[2]);
            }
            for (int a = 0; a < 10; a++) {
                hops[a][b] = NONE;
                if (a != b && a != without && b != without && w.status[a] == 1 && w.status[b] == 1) {
                    List<Integer> path = wayOf(a, List.of(r), far, beside);
                    hops[a][b] = stuck ? NONE : path.size() - 1;
                }
            }
        }
        return hops;
    }

    int reality(int reality, int what) {
        index(in(reality, w.realities - 1));
        what(what, 5);
        int answer = what == 1 || what == 3 ? NONE : 0;
        switch (what) {
            case 0:
                return w.zones.get(reality).size();
            case 1: {
                TreeSet<Integer> volumes = new TreeSet<>();
                for (int n = 0; n < 10; n++) {
                    if (w.status[n] == 1) {
                        volumes.add(volume(n, reality));
                    }
                }
                return volumes.isEmpty() ? NONE : volumes.last() - volumes.first();
            }
            case 2:
                return hub(reality);
            case 3:
                for (int[] row : allWays(reality, NONE)) {
                    for (int hops : row) {
                        answer = Math.max(answer, hops);
                    }
                }
                return answer;
            case 4:
                for (int n : w.zones.get(reality).values()) {
                    answer += zonesOf(n, reality).size() > 1 ? 1 : 0;
                }
                return answer;
            default:
                for (TreeSet<Integer> in : w.held.values()) {
                    answer += in.contains(reality) ? 1 : 0;
                }
                return answer;
        }
    }

    int ways(int reality, int what) {
        index(in(reality, w.realities - 1));
        what(what, 3);
        if (what == 3) {
            for (var e : w.zones.get(reality).entrySet()) {
                if (w.status[e.getValue()] == 1) {
                    return e.getKey();
                }
            }
            return NONE;
        }
        int[][] hops = allWays(reality, NONE);
        int sum = 0;
        int many = 0;
        for (int[] row : hops) {
            for (int h : row) {
                sum += h == NONE ? 0 : h;
                many += h == NONE ? 0 : 1;
            }
        }
        if (what < 2) {
            return what == 0 ? sum : many;
        }
        int hinges = 0;
        for (int c = 0; c < 10; c++) {
            if (w.status[c] == 1) {
                w.status[c] = 2;
                int[][] then = allWays(reality, c);
                w.status[c] = 1;
                for (int a = 0; a < 10; a++) {
                    for (int b = 0; b < 10; b++) {
                        if (a != c && b != c && hops[a][b] != NONE && then[a][b] == NONE) {
                            hinges |= 1 << c;
                        }
                    }
                }
            }
        }
        return hinges;
    }

    int friends(int node) {
        index(in(node, 9));
        int bits = 1023;
        for (int r = 0; r < w.realities; r++) {
            bits &= besideBits(node, r);
        }
        return bits;
    }

    void image() {
        image = w.copy();
    }

    boolean back() {
        if (image == null) {
            return false;
        }
        w = image.copy();
        past.clear();
        return true;
    }

    int count(int what) {
        int answer = 0;
        switch (what) {
            case 0:
                return w.realities;
            case 1:
            case 2:
                for (int n = 0; n < 10; n++) {
                    answer |= w.status[n] == what ? 1 << n : 0;
                }
                return answer;
            case 3:
                return w.landmarks.size();
            case 4:
                return w.values.size();
            case 5:
            case 6:
                for (TreeSet<Integer> in : w.held.values()) {
                    answer += what == 6 ? w.realities - in.size() : in.size() == w.realities ? 1 : 0;
                }
                return answer;
            case 7:
                return past.size();
            default:
                return NONE;
        }
    }
}
