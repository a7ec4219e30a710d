/** Promise 10 (tidy). */
public final class TidyTest {
    public static void main(String[] args) {
        nothingToTidy();
        otherHalfIsAZone();
        pairIsSpared();
        deepestPair();
        leastOfLikePairs();
        twoAreScattered();
        everyReality();
        refused();
        Drive.finish();
    }

    private static void nothingToTidy() {
        Drive x = new Drive("nothing to tidy");
        x.due(0, "tidy").due(1, "count", 7).does("join", 0, 0, 0, 0).due(0, "tidy").does("join", 0, 0, 0, 0).due(0, "tidy");
        x.due(2, "zone", 1, 0, 0).due(3, "zone", 0, 0, 0).due(5, "count", 7).due(0, "why");
    }

    private static void otherHalfIsAZone() {
        Drive x = new Drive("other half is a zone");
        x.does("join", 0, 0, 0, 0).does("join", 0, 0, 16, 0).does("join", 0, 0, 16, 16).does("join", 0, 0, 24, 16).does("put", 3, 9);
        x.due(3, "go", 1, 0).due(2, "held", 2, 0, 0).due(2, "reality", 0, 4).due(4, "reality", 0, 0).due(2, "point", 3, 0, 2);
        // 14 goes to 3, who has 15; 6 stays with 2; what was held stays held.
        x.due(1, "tidy").due(6, "zone", 2, 0, 0).due(-1, "zone", 2, 0, 1).due(7, "zone", 3, 0, 0).due(0, "reality", 0, 4);
        x.due(3, "reality", 0, 0).due(3, "point", 3, 0, 2).due(1, "key", 3, 1).due(256, "held", 3, 0, 1).due(0, "tidy");
    }

    /** Node 6 gets zone 6 to its 114, of which the other half, 115, is shared by 230 and what lies in 231. */
    private static Drive scattered(String title) {
        Drive x = new Drive(title);
        x.due(0, "join", 0, 0, 0, 0).due(1, "join", 0, 0, 16, 0).due(2, "join", 0, 0, 24, 16).due(3, "join", 0, 0, 24, 16);
        x.due(4, "join", 0, 0, 16, 24).due(5, "join", 0, 0, 16, 16).due(6, "join", 0, 0, 20, 16).due(7, "join", 0, 0, 20, 20);
        x.due(2, "zone", 0, 0, 0).due(6, "zone", 1, 0, 0).due(231, "zone", 2, 0, 0).due(15, "zone", 3, 0, 0);
        x.due(29, "zone", 4, 0, 0).due(56, "zone", 5, 0, 0).due(114, "zone", 6, 0, 0).due(230, "zone", 7, 0, 0);
        return x.due(6, "heir", 1, 0, 0);
    }

    private static void pairIsSpared() {
        Drive x = scattered("a pair is spared");
        x.due(7, "go", 1, 0).due(6, "zone", 6, 0, 0).due(114, "zone", 6, 0, 1).due(1, "tidy");
        x.due(6, "zone", 6, 0, 0).due(1, "held", 6, 0, 0).due(115, "zone", 7, 0, 0).due(114, "zone", 2, 0, 0);
        x.due(1, "held", 2, 0, 0).due(1, "held", 7, 0, 0).due(7, "reality", 0, 0).due(256, "held", 6, 0, 1).due(16, "held", 2, 0, 1);
    }

    private static void deepestPair() {
        Drive x = scattered("deepest pair");
        x.due(8, "join", 0, 0, 20, 20).due(9, "join", 0, 0, 22, 20).due(9, "go", 1, 0).due(1, "join", 0, 0, 22, 22);
        x.due(460, "zone", 8, 0, 0).due(461, "zone", 7, 0, 0).due(462, "zone", 9, 0, 0).due(926, "zone", 1, 0, 0);
        x.due(927, "zone", 2, 0, 0).due(11, "reality", 0, 0).due(1, "tidy");
        x.due(463, "zone", 1, 0, 0).due(114, "zone", 2, 0, 0).due(460, "zone", 8, 0, 0).due(461, "zone", 7, 0, 0);
        x.due(6, "zone", 6, 0, 0).due(0, "reality", 0, 4).due(10, "reality", 0, 0);
    }

    private static void leastOfLikePairs() {
        Drive x = scattered("least of like pairs");
        x.due(8, "join", 0, 0, 20, 20).due(9, "join", 0, 0, 22, 20).due(9, "go", 1, 0).due(1, "tidy");
        x.due(230, "zone", 8, 0, 0).due(114, "zone", 7, 0, 0).due(462, "zone", 9, 0, 0).due(463, "zone", 2, 0, 0);
        x.due(9, "reality", 0, 0).due(0, "reality", 0, 4);
    }

    /** Two nodes have several zones: each gives its deepest one. */
    private static void twoAreScattered() {
        Drive x = GoTest.quarters("two are scattered");
        // 2 has 15, 4 has 8, 3 has 9, 5 has 14; then 2 gets 6 and 3 gets 5.
        x.due(4, "join", 0, 0, 0, 0).due(5, "join", 0, 0, 16, 16).due(5, "go", 0, 0).due(4, "go", 1, 0);
        x.due(6, "zone", 2, 0, 0).due(15, "zone", 2, 0, 1).due(5, "zone", 3, 0, 0).due(9, "zone", 3, 0, 1);
        // 15 to 5 makes 7; 9 to 4 makes 4: each node has one zone.
        x.due(4, "reality", 0, 4).due(6, "reality", 0, 0).due(2, "tidy").due(7, "zone", 5, 0, 0).due(6, "zone", 2, 0, 0);
        x.due(4, "zone", 4, 0, 0).due(5, "zone", 3, 0, 0).due(0, "reality", 0, 4);
    }

    private static void everyReality() {
        Drive x = new Drive("every reality");
        x.text(5, "net 3;join 0 0 at 0 0;join 0 0 at 16 0;join 0 0 at 16 16;join 0 0 at 24 16");
        int zones = 0;
        x.due(3, "go", 1, 0);
        for (int r = 0; r < 3; r++) {
            zones += Integer.parseInt(x.call("reality", r, 0));
        }
        x.due(zones - 9, "tidy");
        for (int r = 0; r < 3; r++) {
            x.due(3, "reality", r, 0).due(0, "reality", r, 4);
        }
        if (zones < 11) {
            x.fail("one reality alone is scattered");
        }
    }

    private static void refused() {
        Drive x = new Drive("refused");
        x.does("join", 0, 0, 0, 0).does("join", 0, 0, 16, 0).does("join", 0, 0, 16, 16).does("join", 0, 0, 24, 16);
        x.due(3, "go", 1, 0).due(2, "go", 0, 1).refused(7, "tidy").due(2, "held", 2, 0, 0).due(6, "count", 7);
        x.due(2, "go", 0, 2).due(0, "why").due(2, "tidy").due(2, "reality", 0, 0);
    }
}
