/** Promises 11 (put), 12 (cut), 13 (mend), 21 (key), 22 (point) and 25 (risk), and what 16, 27 and 32 say of copies. */
public final class KeysTest {
    public static void main(String[] args) {
        points();
        puts();
        putAnew();
        cuts();
        mends();
        mendsFromTheFirstKeyToTheLast();
        lostStaysLost();
        risks();
        loads();
        wrongNumbers();
        Drive.finish();
    }

    /** Key 0 is node 0's in all three realities, key 8 node 1's; key 3 is 1's, 0's and 1's. */
    private static Drive two(String title) {
        Drive x = new Drive(title);
        x.text(3, "net 3;join 0 0 at 0 0;join 1 1 at 20 0");
        return x.due(3, "zone", 1, 0, 0).due(3, "zone", 1, 1, 0).due(2, "zone", 1, 2, 0);
    }

    private static void points() {
        Drive x = two("points");
        int[][] rows = {
            {0, 0, 13, 12, 0}, {0, 1, 3, 19, 0}, {0, 2, 25, 25, 0}, {8, 0, 21, 15, 1}, {8, 1, 27, 11, 1}, {8, 2, 1, 8, 1},
            {3, 0, 20, 17, 1}, {3, 1, 12, 12, 0}, {3, 2, 4, 7, 1}, {99, 0, 20, 24, 1}, {99, 2, 4, 18, 1}
        };
        for (int[] row : rows) {
            x.due(row[2], "point", row[0], row[1], 0).due(row[3], "point", row[0], row[1], 1).due(row[4], "point", row[0], row[1], 2);
        }
        x.due(1, "go", 1, 1).due(1, "point", 8, 0, 2).due(0, "go", 0, 1).due(0, "point", 0, 0, 2);
        Drive y = new Drive("all points");
        y.text(1, "net 3");
        for (int key = 0; key < 100; key++) {
            for (int r = 0; r < 3; r++) {
                int v = (key + 1) * (397 + 214 * r) % 1024;
                y.due(v % 32, "point", key, r, 0).due(v / 32, "point", key, r, 1).due(-1, "point", key, r, 2);
            }
        }
    }

    private static void puts() {
        Drive x = two("puts");
        x.due(7, "put", 0, 0).due(7, "put", 8, 999).due(7, "put", 3, 5).due(0, "key", 0, 0).due(7, "key", 0, 1);
        x.due(3, "count", 4).due(3, "count", 5).due(0, "count", 6).due(3, "reality", 0, 5).due(3, "reality", 2, 5);
        x.due(1, "go", 1, 1).due(0, "key", 8, 1).due(2, "key", 3, 1).due(7, "key", 0, 1).due(999, "key", 8, 0);
        x.due(3, "count", 4).due(1, "count", 5).due(5, "count", 6).due(1, "reality", 0, 5).due(2, "reality", 1, 5).due(1, "reality", 2, 5);
        x.refused(8, "put", 8, 1).due(999, "key", 8, 0).due(0, "key", 8, 1).due(2, "put", 3, 6).due(0, "why");
        Drive y = new Drive("put without nodes");
        y.refused(8, "put", 0, 0).due(-1, "key", 0, 0).due(0, "count", 4);
    }

    private static void putAnew() {
        Drive x = two("put anew");
        x.due(7, "put", 3, 5).due(1, "go", 1, 1).due(1, "go", 1, 2).due(2, "key", 3, 1).due(5, "key", 3, 0);
        x.due(7, "put", 3, 8).due(8, "key", 3, 0).due(7, "key", 3, 1).due(1, "count", 4).due(0, "count", 6);
        // Anew also makes copies lost that were held, where the node is dead by now.
        x.due(1, "join", 0, 0, 20, 0).due(7, "put", 3, 8).due(1, "go", 0, 1).due(5, "key", 3, 1).due(5, "put", 3, 9).due(1, "count", 6);
    }

    private static void cuts() {
        Drive x = two("cuts");
        x.refused(9, "cut", 0).due(7, "put", 0, 77).due(77, "cut", 0).due(0, "why").due(-1, "key", 0, 0).due(0, "key", 0, 1);
        x.due(0, "count", 4).due(0, "count", 5).due(0, "count", 6).refused(9, "cut", 0).due(0, "reality", 0, 5);
        x.due(7, "put", 8, 0).due(1, "go", 1, 1).due(3, "count", 6).due(0, "cut", 8).due(0, "count", 6);
        x.due(7, "put", 0, 1).due(0, "go", 0, 1).due(1, "cut", 0);
    }

    private static void mends() {
        Drive x = two("mends");
        x.due(7, "put", 0, 1).due(7, "put", 8, 2).due(7, "put", 3, 3).due(0, "mend").due(1, "go", 1, 1).due(0, "mend");
        // The points of key 3 that are lost are the dead one's, until it is noticed; of key 8 nothing is left.
        x.due(2, "key", 3, 1).due(1, "go", 1, 2).due(2, "mend").due(7, "key", 3, 1).due(0, "key", 8, 1).due(2, "key", 8, 0);
        x.due(0, "mend").due(2, "count", 5).due(3, "count", 6).due(7, "put", 8, 2).due(0, "mend").due(0, "why");
        Drive y = two("mends in part");
        // Node 2 takes half of what node 1 has in each reality.
        y.due(7, "put", 3, 3).due(2, "join", 0, 0, 20, 17).due(2, "point", 3, 0, 2).due(1, "point", 3, 2, 2);
        y.due(2, "go", 1, 1).due(3, "key", 3, 1).due(1, "go", 2, 1).due(2, "key", 3, 1).due(0, "mend");
        y.due(1, "go", 2, 2).due(1, "mend").due(3, "key", 3, 1).due(1, "go", 1, 2).due(1, "mend").due(7, "key", 3, 1);
    }

    /** MEND answers for all keys and all realities together; each key is mended from its own copies. */
    private static void mendsFromTheFirstKeyToTheLast() {
        Drive x = new Drive("all keys");
        x.text(2, "net 3;join 0 0 at 0 0");
        for (int key = 0; key < 100; key++) {
            x.due(7, "put", key, 999 - key);
        }
        x.due(1, "join", 1, 1, 20, 0).due(1, "go", 0, 1).due(0, "mend");
        int lost = Integer.parseInt(x.call("count", 6));
        int gone = 0;
        for (int key = 0; key < 100; key++) {
            gone += x.call("key", key, 1).equals("0") ? 1 : 0;
        }
        x.due(1, "go", 0, 2).due(lost - 3 * gone, "mend").due(3 * gone, "count", 6).due(100 - gone, "count", 5).due(0, "mend");
        if (gone == 0 || gone == 100 || lost == 3 * gone) {
            x.fail("some keys are gone, and some are to be mended");
        }
        // Node 1 has the point of the key in reality 0 alone.
        for (String run : new String[] {"0 at 10 0", "99 at 20 0"}) {
            int key = Integer.parseInt(run.substring(0, run.indexOf(' ')));
            Drive y = new Drive("key " + key);
            y.text(4, "net 2;join 0 0 at 0 0;put " + key + " 1;join 1 1 " + run.substring(run.indexOf(' '))).due(1, "point", key, 0, 2);
            y.due(0, "point", key, 1, 2).due(1, "go", 1, 1).due(2, "key", key, 1).due(1, "go", 1, 2).due(1, "mend").due(3, "key", key, 1);
        }
    }

    /** What was lost stays lost until it is mended or put anew, whoever has its point then. */
    private static void lostStaysLost() {
        Drive x = new Drive("lost stays lost");
        x.text(3, "join 0 0 at 0 0;join 0 0 at 20 0;join 0 0 at 20 20").due(1, "put", 8, 1).due(1, "put", 3, 2).due(1, "put", 0, 3);
        x.due(1, "point", 8, 0, 2).due(2, "point", 3, 0, 2).due(2, "go", 1, 1).due(1, "go", 2, 1).due(0, "key", 8, 1).due(0, "key", 3, 1);
        x.due(1, "go", 1, 2).due(0, "key", 8, 1).due(1, "go", 2, 2).due(0, "key", 8, 1).due(0, "key", 3, 1).due(2, "count", 6).due(0, "mend");
        x.due(1, "join", 0, 0, 20, 0).due(0, "key", 8, 1).due(0, "tidy").due(1, "go", 1, 0).due(0, "key", 8, 1).due(2, "count", 6);
        x.due(1, "put", 8, 4).due(1, "key", 8, 1).due(1, "count", 6).due(1, "key", 0, 1);
    }

    private static void risks() {
        Drive x = two("risks");
        x.due(7, "put", 0, 1).due(7, "put", 8, 2).due(7, "put", 3, 3).due(1, "risk", 0).due(1, "risk", 1).due(0, "risk", 2);
        x.due(1, "go", 1, 1).due(2, "risk", 0).due(0, "risk", 1).due(1, "go", 1, 2).due(2, "risk", 0).due(7, "put", 8, 2).due(3, "risk", 0);
        x.due(1, "cut", 0).due(2, "risk", 0).due(0, "go", 0, 0).due(0, "risk", 0);
    }

    private static void loads() {
        Drive x = two("loads");
        x.due(7, "put", 0, 1).due(7, "put", 8, 2).due(7, "put", 3, 3);
        x.due(1, "held", 0, 0, 3).due(2, "held", 0, 1, 3).due(1, "held", 0, 2, 3);
        x.due(2, "held", 1, 0, 3).due(1, "held", 1, 1, 3).due(2, "held", 1, 2, 3).due(0, "held", 2, 0, 3);
        x.due(1, "go", 1, 1).due(0, "held", 1, 0, 3).due(1, "go", 1, 2).due(1, "held", 0, 0, 3).due(2, "held", 0, 1, 3);
        x.due(2, "mend").due(2, "held", 0, 0, 3).due(2, "held", 0, 2, 3).due(2, "reality", 2, 5);
    }

    private static void wrongNumbers() {
        Drive x = two("wrong numbers");
        for (int bad : new int[] {-1, 100, Integer.MIN_VALUE, Integer.MAX_VALUE}) {
            x.index("put", bad, 0).index("put", bad, 1000).index("cut", bad).index("key", bad, 0).index("key", bad, 9);
            x.index("point", bad, 0, 0).index("point", bad, 0, 9).index("seek", 0, bad, 0).index("seek", 0, bad, 9);
        }
        for (int bad : new int[] {-1, 1000, Integer.MIN_VALUE, Integer.MAX_VALUE}) {
            x.argument("put", 0, bad).argument("put", 99, bad);
        }
        for (int bad : new int[] {-1, 10, Integer.MIN_VALUE, Integer.MAX_VALUE}) {
            x.index("risk", bad).element("key", 0, bad).element("point", 0, 0, bad).index("point", 0, bad, 0);
        }
        x.element("key", 0, 2).element("point", 0, 0, 3).index("point", 0, 3, 0).index("point", 0, 3, 3);
        x.due(0, "count", 4).due(0, "why").due(7, "put", 99, 999).due(999, "key", 99, 0);
        // A value that is none goes ahead of what would be refused.
        new Drive("no value ahead of refused").argument("put", 0, 1000).due(0, "why").refused(8, "put", 0, 999);
    }
}
