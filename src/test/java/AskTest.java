/** Promises 15 (node), 16 (held), 17 (zone), 18 (box), 19 (cell), 27 (reality), 29 (friends) and 32 (count). */
public final class AskTest {
    public static void main(String[] args) {
        nodes();
        heldInOneReality();
        hubs();
        zones();
        boxes();
        cells();
        realities();
        friends();
        askedAgain();
        counts();
        wrongNumbers();
        Drive.finish();
    }

    /** Reality 0: 1 has 4, 3 has 5, 4 has 12, 0 has 13, 2 has 7. Reality 1: 1 has 4, 3 has 5, 0 has 6, 2 has 14, 4 has 15. */
    private static Drive five(String title) {
        Drive x = new Drive(title);
        x.text(6, "net 2;join 9 8 at 0 0;join 7 6 at 0 0;join 5 4 at 16 16;join 3 2 at 0 16;join 1 0 at 20 10");
        int[][] rows = {{13, 6}, {4, 4}, {7, 14}, {5, 5}, {12, 15}};
        for (int node = 0; node < 5; node++) {
            x.due(rows[node][0], "zone", node, 0, 0).due(rows[node][1], "zone", node, 1, 0);
        }
        return x;
    }

    private static void nodes() {
        Drive x = five("nodes");
        for (int node = 0; node < 5; node++) {
            x.due(1, "node", node, 0).due(9 - 2 * node, "node", node, 1).due(8 - 2 * node, "node", node, 2);
        }
        x.due(0, "node", 5, 0).due(-1, "node", 5, 1).due(-1, "node", 5, 2).due(4, "go", 2, 1);
        x.due(2, "node", 2, 0).due(5, "node", 2, 1).due(4, "node", 2, 2).due(4, "go", 2, 2).due(0, "node", 2, 0).due(-1, "node", 2, 1);
    }

    private static void heldInOneReality() {
        Drive x = five("held");
        x.due(1, "held", 4, 0, 0).due(128, "held", 4, 0, 1).due(7, "held", 4, 0, 2).due(13, "held", 4, 1, 2);
        x.due(6, "held", 3, 0, 2).due(22, "held", 3, 1, 2).due(256, "held", 3, 1, 1);
        x.due(0, "held", 9, 0, 0).due(0, "held", 9, 0, 1).due(0, "held", 9, 0, 2).due(0, "held", 9, 0, 3).due(0, "held", 9, 0, 4);
        // The dead stand beside others, too.
        x.due(4, "go", 2, 1).due(7, "held", 4, 0, 2).due(25, "held", 2, 0, 2).due(256, "held", 2, 0, 1).due(1, "held", 2, 0, 0);
        Drive y = new Drive("round");
        y.does("join", 0, 0, 0, 0).due(0, "held", 0, 0, 2).does("join", 0, 0, 0, 0).due(2, "held", 0, 0, 2).due(1, "held", 1, 0, 2);
        // 8 stands beside 13 going round by x, and beside 10 going round by y.
        Drive z = new Drive("round the corner");
        z.text(8, "join 0 0at 0 0;join 0 0at 0 0;join 0 0at 31 31;join 0 0at 0 0;join 0 0at 0 0;join 0 0at 31 0;join 0 0at 0 31;join 0 0at 31 31");
        z.due(8, "zone", 4, 0, 0).due(9, "zone", 3, 0, 0).due(13, "zone", 5, 0, 0).due(12, "zone", 0, 0, 0).due(10, "zone", 6, 0, 0);
        z.due(11, "zone", 1, 0, 0).due(14, "zone", 2, 0, 0).due(15, "zone", 7, 0, 0);
        z.due(1 << 3 | 1 << 5 | 1 << 6, "held", 4, 0, 2).due(1 << 5 | 1 << 6 | 1 << 2, "held", 7, 0, 2);
    }

    private static void hubs() {
        Drive x = five("hubs");
        // Beside: in reality 0 node 0 has 3, 1 has 3, 2 has 3, 3 has 2, 4 has 3.
        x.due(0, "reality", 0, 2).due(1, "held", 0, 0, 4).due(0, "held", 1, 0, 4).due(4, "go", 0, 1).due(1, "reality", 0, 2);
        x.due(0, "held", 0, 0, 4).due(1, "held", 1, 0, 4);
        Drive y = new Drive("hub of more");
        y.due(-1, "reality", 0, 2).due(0, "join", 0, 0, 0, 0).due(0, "reality", 0, 2).due(1, "held", 0, 0, 4);
        // Quarters, one of them in two: node 3 (4) has 0, 1; node 0 (6) has 2, 3, 4, and so on.
        y.does("join", 0, 0, 0, 0).does("join", 0, 0, 31, 31).does("join", 0, 0, 0, 0).does("join", 0, 0, 31, 31);
        y.due(1 << 1 | 1, "held", 3, 0, 2).due(1 << 2 | 1 << 3 | 1 << 4, "held", 0, 0, 2).due(1 << 2 | 1 << 3 | 1 << 4, "held", 1, 0, 2);
        y.due(1 | 1 << 1 | 1 << 4, "held", 2, 0, 2).due(0, "reality", 0, 2).due(4, "go", 0, 1).due(1, "reality", 0, 2);
        y.due(3, "go", 1, 1).due(2, "reality", 0, 2).due(1, "held", 2, 0, 4).due(2, "go", 2, 1).due(4, "reality", 0, 2);
        y.due(1, "go", 4, 1).due(3, "reality", 0, 2).due(0, "go", 3, 1).due(-1, "reality", 0, 2).due(0, "held", 3, 0, 4);
    }

    private static void zones() {
        Drive x = new Drive("zones");
        x.does("join", 0, 0, 0, 0).does("join", 0, 0, 16, 0).does("join", 0, 0, 16, 16).does("join", 0, 0, 24, 16).does("go", 1, 0);
        x.due(6, "zone", 2, 0, 0).due(14, "zone", 2, 0, 1).due(-1, "zone", 2, 0, 2).due(-1, "zone", 2, 0, -1);
        x.due(-1, "zone", 1, 0, 0).due(-1, "zone", 2, 0, Integer.MAX_VALUE).due(-1, "zone", 2, 0, Integer.MIN_VALUE);
        x.due(2, "held", 2, 0, 0).due(384, "held", 2, 0, 1);
    }

    private static void boxes() {
        Drive x = new Drive("boxes");
        int[][] rows = {
            {1, 0, 0, 0, 32, 32}, {2, 1, 0, 0, 16, 32}, {3, 1, 16, 0, 16, 32}, {4, 2, 0, 0, 16, 16}, {5, 2, 0, 16, 16, 16},
            {6, 2, 16, 0, 16, 16}, {7, 2, 16, 16, 16, 16}, {8, 3, 0, 0, 8, 16}, {9, 3, 8, 0, 8, 16}, {15, 3, 24, 16, 8, 16},
            {30, 4, 24, 16, 8, 8}, {115, 6, 20, 20, 4, 4}, {512, 9, 0, 0, 1, 2}, {1023, 9, 31, 30, 1, 2}, {1024, 10, 0, 0, 1, 1},
            {1025, 10, 0, 1, 1, 1}, {1026, 10, 1, 0, 1, 1}, {2047, 10, 31, 31, 1, 1}, {1536, 10, 16, 0, 1, 1}, {1280, 10, 0, 16, 1, 1}
        };
        for (int[] row : rows) {
            for (int what = 0; what < 5; what++) {
                x.due(row[what + 1], "box", row[0], what);
            }
        }
        for (int zone = 1; zone < 1024; zone++) {
            halvesOf(x, zone);
        }
        x.argument("box", 0, 0).argument("box", 2048, 0).argument("box", -1, 9).element("box", 1, -1).element("box", 1, 5);
    }

    private static void halvesOf(Drive x, int zone) {
        int[] box = new int[5];
        for (int what = 0; what < 5; what++) {
            box[what] = Integer.parseInt(x.call("box", zone, what));
        }
        int side = box[0] % 2;
        for (int half = 0; half < 2; half++) {
            int[] part = box.clone();
            part[0]++;
            part[3 + side] /= 2;
            part[1 + side] += half * part[3 + side];
            for (int what = 0; what < 5; what++) {
                x.due(part[what], "box", 2 * zone + half, what);
            }
        }
    }

    private static void cells() {
        Drive x = five("cells");
        x.due(4, "cell", 0, 15, 15, 0).due(1, "cell", 0, 15, 15, 1).due(12, "cell", 0, 16, 0, 0).due(4, "cell", 0, 23, 15, 1);
        x.due(13, "cell", 0, 24, 15, 0).due(0, "cell", 0, 31, 0, 1).due(7, "cell", 0, 31, 31, 0).due(5, "cell", 0, 0, 31, 0);
        x.due(6, "cell", 1, 24, 15, 0).due(15, "cell", 1, 24, 16, 0).due(4, "cell", 1, 31, 31, 1).due(2, "cell", 1, 23, 16, 1);
        x.due(4, "go", 2, 1).due(2, "cell", 0, 16, 16, 1).due(7, "cell", 0, 16, 16, 0);
        x.index("cell", 2, 0, 0, 0).index("cell", -1, 99, 99, 9).argument("cell", 0, 32, 0, 0).argument("cell", 0, 0, 32, 0);
        x.argument("cell", 0, -1, 0, 7).argument("cell", 0, 0, -1, 7).element("cell", 0, 0, 0, 2).element("cell", 0, 0, 0, -1);
    }

    private static void realities() {
        Drive x = five("realities");
        x.due(5, "reality", 0, 0).due(128, "reality", 0, 1).due(0, "reality", 0, 2).due(2, "reality", 0, 3).due(0, "reality", 0, 4);
        x.due(0, "reality", 0, 5).due(3, "put", 0, 0).due(1, "reality", 0, 5).due(1, "reality", 1, 5);
        // Who is dead does not count for EVEN.
        x.due(4, "go", 4, 1).due(128, "reality", 0, 1).due(3, "go", 0, 1).due(0, "reality", 0, 1).due(5, "reality", 0, 0);
        x.due(2, "go", 1, 1).due(1, "go", 2, 1).due(0, "reality", 1, 1).due(-1, "reality", 1, 3).due(0, "go", 3, 1).due(-1, "reality", 0, 1);
        Drive y = new Drive("scattered");
        y.does("join", 0, 0, 0, 0).due(0, "reality", 0, 1).does("join", 0, 0, 16, 0).does("join", 0, 0, 16, 16).does("join", 0, 0, 24, 16);
        y.due(384, "reality", 0, 1).does("go", 1, 0).due(4, "reality", 0, 0).due(2, "reality", 0, 4).due(384, "reality", 0, 1);
        y.due(2, "go", 2, 1).due(2, "reality", 0, 4).due(384, "reality", 0, 1);
    }

    private static void friends() {
        Drive x = five("friends");
        x.due(5, "friends", 4).due(6, "friends", 3).due(0, "friends", 5).due(4, "go", 2, 1).due(5, "friends", 4);
        x.due(4, "go", 2, 2).due(0, "friends", 2);
        for (int node = 0; node < 10; node++) {
            int both = Integer.parseInt(x.call("held", node, 0, 2)) & Integer.parseInt(x.call("held", node, 1, 2));
            x.due(both, "friends", node);
        }
        Drive y = new Drive("friends in one");
        y.does("join", 0, 0, 0, 0).due(0, "friends", 0).does("join", 0, 0, 0, 0).due(2, "friends", 0).due(1, "friends", 1);
    }

    /** What is asked is as it stands now, whatever was asked before. */
    private static void askedAgain() {
        Drive x = new Drive("asked again");
        x.due(0, "join", 0, 0, 0, 0).due(1, "join", 0, 0, 16, 0).due(2, "join", 0, 0, 0, 16).due(3, "join", 0, 0, 16, 16);
        x.due(6, "held", 0, 0, 2).due(6, "friends", 0).due(9, "held", 1, 0, 2).due(9, "held", 2, 0, 2).due(6, "held", 3, 0, 2);
        // Without node 2, 0 has all of 2; without 3, 1 has all of 3.
        x.due(3, "go", 2, 0).due(10, "held", 0, 0, 2).due(10, "friends", 0).due(0, "held", 2, 0, 2).due(2, "go", 3, 0).due(2, "held", 0, 0, 2);
        x.due(1, "held", 1, 0, 2).due(0, "held", 3, 0, 2).due(1, "go", 0, 0).due(0, "held", 0, 0, 2).due(0, "held", 1, 0, 2).due(0, "friends", 0);
    }

    private static void counts() {
        Drive x = five("counts");
        x.due(2, "count", 0).due(31, "count", 1).due(0, "count", 2).due(0, "count", 3).due(0, "count", 7);
        x.due(3, "put", 0, 0).due(3, "put", 1, 0).due(2, "count", 4).due(2, "count", 5).due(0, "count", 6).due(2, "count", 7);
        x.due(4, "go", 3, 1).due(23, "count", 1).due(8, "count", 2).text(1, "landmark 0 0").due(1, "count", 3).due(0, "count", 7);
        x.due(-1, "count", 8).due(-1, "count", -1).due(-1, "count", Integer.MAX_VALUE).due(-1, "count", Integer.MIN_VALUE);
    }

    private static void wrongNumbers() {
        Drive x = five("wrong numbers");
        for (int bad : new int[] {-1, 10, Integer.MIN_VALUE, Integer.MAX_VALUE}) {
            x.index("node", bad, 0).index("node", bad, 9).index("held", bad, 0, 0).index("held", bad, 9, 9).index("zone", bad, 0, 0);
            x.index("friends", bad).element("node", 0, bad).element("held", 0, 0, bad).element("reality", 0, bad);
            x.index("held", 0, bad, 0).index("zone", 0, bad, 0).index("reality", bad, 0).index("reality", bad, 9).index("cell", bad, 0, 0, 0);
        }
        x.element("node", 0, 3).element("held", 0, 0, 5).element("reality", 0, 6).index("held", 0, 2, 9).index("zone", 0, 2, 0);
        x.index("reality", 2, 0).due(0, "why");
    }
}
