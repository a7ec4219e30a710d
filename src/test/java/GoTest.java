/** Promises 9 (go) and 20 (heir). */
public final class GoTest {
    public static void main(String[] args) {
        otherHalf();
        leastBeside();
        otherHalfOfTheDead();
        noneBeside();
        mergedAgainAndAgain();
        volumeAsItIsThen();
        lastOne();
        crashes();
        notices();
        refusals();
        wrongNumbers();
        heirsWithout();
        Drive.finish();
    }

    /** Four quarters: node 3 has 4, node 1 has 5, node 0 has 6, node 2 has 7; those across are not beside each other. */
    static Drive quarters(String title) {
        Drive x = new Drive(title);
        x.due(0, "join", 10, 0, 0, 0).due(1, "join", 50, 50, 0, 0).due(2, "join", 6, 0, 31, 31).due(3, "join", 0, 0, 0, 0);
        return x.due(6, "zone", 0, 0, 0).due(5, "zone", 1, 0, 0).due(7, "zone", 2, 0, 0).due(4, "zone", 3, 0, 0);
    }

    private static void otherHalf() {
        Drive x = quarters("other half");
        x.due(2, "heir", 0, 0, 0).due(3, "heir", 1, 0, 0).due(0, "heir", 2, 0, 0).due(1, "heir", 3, 0, 0);
        x.due(3, "go", 2, 0).due(0, "node", 2, 0).due(-1, "node", 2, 1).due(3, "zone", 0, 0, 0).due(-1, "zone", 0, 0, 1);
        x.due(512, "held", 0, 0, 1).due(0, "held", 2, 0, 0).due(0, "held", 2, 0, 1).due(3, "reality", 0, 0);
        // The other half's node goes ahead of one beside that has less.
        Drive y = quarters("other half, though less is beside");
        y.due(4, "join", 1, 1, 0, 16).due(128, "held", 4, 0, 1).due(19, "held", 2, 0, 2).due(0, "heir", 2, 0, 0);
    }

    private static void leastBeside() {
        Drive x = new Drive("least beside");
        x.does("join", 0, 0, 0, 0).does("join", 0, 0, 16, 0).does("join", 0, 0, 16, 16).does("join", 0, 0, 24, 16);
        // 0 has 2, 1 has 6, 2 has 14, 3 has 15: the other half of 6 is no zone.
        x.due(2, "heir", 1, 0, 0).due(3, "go", 1, 0).due(2, "held", 2, 0, 0).due(6, "zone", 2, 0, 0).due(14, "zone", 2, 0, 1);
        x.due(384, "held", 2, 0, 1).due(3, "heir", 2, 0, 0).due(3, "heir", 2, 0, 1).due(3, "heir", 0, 0, 0);
        // Both go to 3: 6 for its volume, 14 for the other half; all three merge to 3.
        x.due(2, "go", 2, 0).due(3, "zone", 3, 0, 0).due(1, "held", 3, 0, 0).due(1, "go", 0, 0).due(1, "zone", 3, 0, 0);
    }

    private static void otherHalfOfTheDead() {
        Drive x = quarters("other half of the dead");
        x.due(3, "go", 1, 1).due(0, "heir", 3, 0, 0).due(3, "heir", 1, 0, 0).due(2, "go", 3, 0);
        x.due(4, "zone", 0, 0, 0).due(6, "zone", 0, 0, 1).due(512, "held", 0, 0, 1).due(5, "zone", 1, 0, 0);
    }

    private static void noneBeside() {
        Drive x = quarters("none beside");
        // 7 becomes 14 of node 2, 30 of node 4 and 31 of node 5.
        x.due(4, "join", 0, 0, 31, 31).due(5, "join", 0, 0, 31, 31).due(5, "go", 0, 1).due(4, "go", 1, 1);
        x.due(64, "held", 4, 0, 1).due(64, "held", 5, 0, 1).due(128, "held", 2, 0, 1).due(3, "held", 3, 0, 2);
        x.due(4, "heir", 3, 0, 0).due(3, "go", 3, 0).due(4, "zone", 4, 0, 0).due(30, "zone", 4, 0, 1).due(320, "held", 4, 0, 1);
    }

    private static void mergedAgainAndAgain() {
        Drive x = new Drive("merged again and again");
        for (int node = 0; node < 10; node++) {
            x.does("join", 0, 0, 0, 0);
        }
        // Node n has the half that stayed; each that leaves hands to the next deeper one, until one has all.
        for (int node = 8; node >= 1; node--) {
            x.due(9, "heir", node, 0, 0).due(node + 1, "go", node, 0).due(1 << node, "zone", 9, 0, 0).due(1, "held", 9, 0, 0);
        }
        x.due(1, "go", 9, 0).due(1, "zone", 0, 0, 0).due(1024, "held", 0, 0, 1);
        // Pieces that wait in one node merge with the last one, up to the whole.
        Drive y = new Drive("up to the whole");
        y.does("join", 0, 0, 0, 0).does("join", 0, 0, 16, 0).does("join", 0, 0, 0, 16).does("join", 0, 0, 0, 0);
        y.due(8, "zone", 3, 0, 0).due(9, "zone", 0, 0, 0).due(5, "zone", 2, 0, 0).due(3, "zone", 1, 0, 0);
        y.due(3, "go", 2, 0).due(5, "zone", 0, 0, 0).due(9, "zone", 0, 0, 1).due(2, "go", 3, 0);
        y.due(2, "zone", 0, 0, 0).due(1, "held", 0, 0, 0).due(1, "go", 1, 0).due(1, "zone", 0, 0, 0);
    }

    private static void volumeAsItIsThen() {
        Drive x = quarters("volume as it is then");
        // Node 4 has 8, node 5 has 14: node 3 keeps 9, node 2 keeps 15.
        x.due(4, "join", 0, 0, 0, 0).due(5, "join", 0, 0, 16, 16).due(8, "zone", 4, 0, 0).due(9, "zone", 3, 0, 0);
        x.due(14, "zone", 5, 0, 0).due(15, "zone", 2, 0, 0);
        // 6 goes to 2 (128, as 3, 4 and 5 have, and the least), and then 5 to 3, as 2 has 384.
        x.due(2, "heir", 0, 0, 0).due(2, "heir", 1, 0, 0).due(5, "go", 0, 0).due(384, "held", 2, 0, 1);
        x.due(3, "heir", 1, 0, 0).due(4, "go", 1, 0).due(5, "zone", 3, 0, 0).due(9, "zone", 3, 0, 1);
        // 2 leaves: 6 goes to 4 (128; 5 too), then 15 to its other half's node 5, merged to 7.
        x.due(4, "heir", 2, 0, 0).due(5, "heir", 2, 0, 1).due(3, "go", 2, 0).due(6, "zone", 4, 0, 0).due(8, "zone", 4, 0, 1);
        x.due(7, "zone", 5, 0, 0).due(384, "held", 4, 0, 1).due(384, "held", 3, 0, 1).due(256, "held", 5, 0, 1);
    }

    private static void lastOne() {
        Drive x = new Drive("last one");
        x.text(5, "net 2;join 1 1 at 0 0;join 2 2 at 20 0;put 0 1;put 1 2").due(-1, "heir", 0, 0, 1);
        x.due(1, "go", 0, 0).due(1, "zone", 1, 0, 0).due(1, "zone", 1, 1, 0).due(-1, "heir", 1, 0, 0).due(3, "key", 0, 1);
        x.due(0, "go", 1, 0).due(0, "why").due(0, "reality", 0, 0).due(0, "reality", 1, 0).due(-1, "cell", 0, 0, 0, 1);
        x.due(2, "count", 4).due(4, "count", 6).due(0, "count", 5).due(0, "key", 0, 1).due(1, "key", 0, 0).due(0, "count", 1);
        x.due(0, "join", 3, 3, 30, 30).due(1, "zone", 0, 0, 0).due(0, "mend").due(0, "key", 0, 1).due(4, "count", 6);
    }

    private static void crashes() {
        Drive x = quarters("crash");
        x.due(1, "put", 0, 5).due(1, "put", 3, 6).due(3, "go", 2, 1).due(2, "node", 2, 0).due(6, "node", 2, 1).due(0, "node", 2, 2);
        x.due(4, "count", 2).due(11, "count", 1).due(7, "zone", 2, 0, 0).due(256, "held", 2, 0, 1).due(1, "key", 0, 1);
        x.due(0, "key", 3, 1).due(6, "key", 3, 0).due(1, "count", 6).refused(4, "go", 2, 1).refused(4, "go", 2, 0);
        x.due(2, "go", 0, 1).due(1, "go", 3, 1).due(0, "key", 0, 1).due(0, "go", 1, 1).due(15, "count", 2).due(0, "count", 1);
        Drive y = new Drive("crash in realities");
        // Key 3 is node 1's in reality 0 and node 0's in reality 1.
        y.text(3, "net 2;join 0 0 at 0 0;join 0 0 at 16 0").due(3, "put", 3, 4).due(1, "go", 1, 1).due(2, "key", 3, 1);
        y.due(0, "go", 0, 1).due(0, "key", 3, 1).due(4, "key", 3, 0).due(2, "count", 6);
    }

    private static void notices() {
        Drive x = quarters("notice");
        x.refused(5, "go", 2, 2).due(3, "go", 2, 1).due(3, "go", 2, 2).due(0, "node", 2, 0).due(3, "zone", 0, 0, 0);
        x.due(512, "held", 0, 0, 1).refused(5, "go", 2, 2).due(0, "count", 2);
        Drive y = quarters("notice of the last ones");
        y.due(1, "put", 0, 9).due(3, "go", 0, 1).due(2, "go", 1, 1).due(1, "go", 2, 1).due(0, "go", 3, 1);
        y.refused(6, "go", 0, 2).due(-1, "heir", 0, 0, 0).due(0, "count", 1);
        y.due(true, "end", 0).refused(3, "join", 0, 0, 0, 0);
        Drive z = new Drive("notice of the last one");
        z.does("join", 1, 1, 0, 0).does("put", 0, 9).due(0, "go", 0, 1).refused(3, "join", 1, 1, 0, 0).due(-1, "heir", 0, 0, 0);
        z.due(0, "go", 0, 2).due(0, "reality", 0, 0).due(0, "node", 0, 0).due(-1, "cell", 0, 3, 3, 0).due(9, "key", 0, 0);
        z.due(1, "count", 6).due(0, "join", 1, 1, 0, 0).due(1, "zone", 0, 0, 0);
        Drive w = quarters("the dead take nothing");
        w.due(3, "go", 0, 1).due(2, "go", 2, 1).due(3, "heir", 0, 0, 0).due(1, "heir", 2, 0, 0).due(2, "go", 2, 2);
        w.due(5, "zone", 1, 0, 0).due(7, "zone", 1, 0, 1).due(1, "heir", 0, 0, 0).due(2, "go", 0, 2).due(3, "zone", 1, 0, 0);
    }

    private static void refusals() {
        Drive x = quarters("refusals");
        x.refused(4, "go", 9, 0).refused(4, "go", 9, 1).refused(5, "go", 9, 2).refused(5, "go", 0, 2);
        x.due(3, "go", 0, 1).due(2, "go", 1, 1).due(1, "go", 2, 1).refused(6, "go", 3, 0).refused(4, "go", 0, 0);
        x.due(1, "node", 3, 0).due(4, "zone", 3, 0, 0).due(-1, "heir", 3, 0, 0).due(3, "heir", 0, 0, 0);
        x.due(1, "go", 0, 2).due(1, "go", 1, 2).refused(6, "go", 3, 0).due(1, "go", 2, 2).due(0, "go", 3, 0);
    }

    private static void wrongNumbers() {
        Drive x = quarters("wrong numbers");
        for (int bad : new int[] {-1, 10, Integer.MIN_VALUE, Integer.MAX_VALUE}) {
            x.index("go", bad, 0).index("go", bad, 7).index("heir", bad, 0, 0).due(-1, "heir", 0, 0, bad);
        }
        for (int bad : new int[] {-1, 3, Integer.MIN_VALUE, Integer.MAX_VALUE}) {
            x.element("go", 0, bad).element("go", 9, bad).index("heir", 0, bad, 0);
        }
        x.index("heir", 0, 1, 0).due(0, "why").due(15, "count", 1).due(4, "count", 7);
    }

    private static void heirsWithout() {
        Drive x = new Drive("heirs without");
        x.due(-1, "heir", 0, 0, 0).does("join", 0, 0, 0, 0).due(-1, "heir", 0, 0, 0).due(-1, "heir", 1, 0, 0);
        x.does("join", 0, 0, 0, 0).due(1, "heir", 0, 0, 0).due(0, "heir", 1, 0, 0).due(-1, "heir", 0, 0, 1).due(-1, "heir", 0, 0, -1);
        x.due(1, "go", 0, 1).due(1, "heir", 0, 0, 0).due(-1, "heir", 1, 0, 0);
    }
}
