/** Promises 23 (way), 24 (seek) and 28 (ways), and WORST of promise 27. */
public final class WayTest {
    public static void main(String[] args) {
        ways();
        stuckWays();
        roundTheTorus();
        nearestOfSeveralZones();
        seeks();
        stretches();
        seeksInAll();
        stuckSeeks();
        surveys();
        spots();
        wrongNumbers();
        Drive.finish();
    }

    private static void ways() {
        Drive x = GoTest.quarters("ways");
        // From 4 (node 3) to (16, 16) in 7 (node 2): 6 (node 0) and 5 (node 1) are both 1 far; node 0 is the lesser.
        x.due(2, "way", 3, 0, 16, 16, -1).due(3, "way", 3, 0, 16, 16, 0).due(0, "way", 3, 0, 16, 16, 1).due(2, "way", 3, 0, 16, 16, 2);
        x.due(-1, "way", 3, 0, 16, 16, 3).due(-1, "way", 3, 0, 16, 16, -2).due(-1, "way", 3, 0, 16, 16, Integer.MAX_VALUE);
        // (18, 16) is 3 far from 5, but 1 from 6; (16, 18) the other way round.
        x.due(0, "way", 3, 0, 18, 16, 1).due(1, "way", 3, 0, 16, 18, 1).due(2, "way", 3, 0, 16, 18, 2);
        x.due(0, "way", 3, 0, 15, 15, -1).due(3, "way", 3, 0, 0, 0, 0).due(-1, "way", 3, 0, 0, 0, 1).due(1, "way", 3, 0, 0, 16, -1);
    }

    private static void stuckWays() {
        Drive x = GoTest.quarters("stuck ways");
        x.due(3, "go", 0, 1).due(2, "way", 3, 0, 16, 16, -1).due(1, "way", 3, 0, 16, 16, 1).due(1, "way", 3, 0, 18, 16, 1);
        // The point is the dead node's: nobody that is up has it.
        x.due(-1, "way", 3, 0, 16, 0, -1).due(3, "way", 3, 0, 16, 0, 0).due(-1, "way", 3, 0, 16, 0, 1);
        x.due(-1, "way", 1, 0, 20, 0, -1).due(1, "way", 1, 0, 20, 0, 0).due(2, "way", 1, 0, 20, 0, 1).due(-1, "way", 1, 0, 20, 0, 2);
        x.due(2, "go", 1, 1).due(-1, "way", 3, 0, 16, 16, -1).due(3, "way", 3, 0, 16, 16, 0).due(-1, "way", 3, 0, 16, 16, 1);
        x.state("way", 0, 0, 0, 0, 0).state("way", 1, 0, 0, 0, -1).state("way", 9, 0, 0, 0, 0);
    }

    private static void roundTheTorus() {
        Drive x = GoTest.quarters("round the torus");
        // From 7 to (0, 0) it is 1 by x and 1 by y, going round both ways.
        x.due(0, "way", 2, 0, 0, 0, 1).due(3, "way", 2, 0, 0, 0, 2).due(2, "way", 2, 0, 0, 0, -1);
        x.due(1, "way", 2, 0, 2, 0, 1).due(0, "way", 2, 0, 0, 2, 1);
        x.due(3, "way", 0, 0, 2, 31, 1).due(2, "way", 0, 0, 0, 29, 1);
    }

    private static void nearestOfSeveralZones() {
        Drive x = GoTest.quarters("several zones");
        // 7 becomes 14 of node 2 and 15 of node 4; with node 0 gone, 2 has 6 and 14.
        x.due(4, "join", 0, 0, 31, 31).due(4, "go", 0, 0).due(6, "zone", 2, 0, 0).due(14, "zone", 2, 0, 1).due(15, "zone", 4, 0, 0);
        x.due(0, "way", 2, 0, 31, 0, -1).due(0, "way", 2, 0, 16, 31, -1).due(1, "way", 3, 0, 16, 20, -1).due(2, "way", 3, 0, 16, 20, 1);
        x.due(1, "way", 2, 0, 24, 16, -1).due(2, "way", 3, 0, 24, 20, -1).due(1, "way", 3, 0, 31, 20, 1);
        // Node 2 is 7 far from (24, 22) by its zone 6, but 1 by 14.
        x.due(2, "way", 3, 0, 24, 22, 1).due(4, "way", 3, 0, 24, 22, 2);
    }

    private static void seeks() {
        Drive x = GoTest.quarters("seeks");
        // Key 3 lies at (20, 17), node 2's; places are 3: (0, 0), 0: (10, 0), 2: (6, 0), 1: (50, 50).
        x.due(1, "put", 3, 1).due(2, "seek", 3, 3, 0).due(14, "seek", 3, 3, 1).due(2, "seek", 3, 3, 2);
        x.due(7, "seek", 3, 3, 3).due(3, "seek", 3, 3, 4).due(1, "seek", 1, 3, 0).due(94, "seek", 1, 3, 1);
        x.due(1, "seek", 1, 3, 3).due(1, "seek", 1, 3, 4).due(0, "seek", 2, 3, 0).due(0, "seek", 2, 3, 1).due(2, "seek", 2, 3, 2);
        x.due(1, "seek", 2, 3, 3).due(1, "seek", 2, 3, 4);
        x.due(3, "go", 0, 1).due(2, "seek", 3, 3, 0).due(194, "seek", 3, 3, 1).due(97, "seek", 3, 3, 3).due(3, "seek", 3, 3, 4);
    }

    private static void stretches() {
        Drive x = new Drive("stretch by 0");
        x.does("join", 90, 9, 0, 0).does("join", 50, 50, 0, 0).does("join", 0, 0, 31, 31).does("join", 0, 0, 0, 0).does("put", 3, 1);
        x.due(198, "seek", 3, 3, 1).due(1, "seek", 3, 3, 3).due(0, "seek", 3, 3, 4);
        Drive y = new Drive("stretch of 0 by 0");
        y.does("join", 7, 7, 0, 0).does("join", 7, 7, 0, 0).does("join", 7, 7, 31, 31).does("join", 7, 7, 0, 0).does("put", 3, 1);
        y.due(2, "seek", 3, 3, 0).due(0, "seek", 3, 3, 1).due(1, "seek", 3, 3, 3).due(1, "seek", 3, 3, 4);
    }

    private static void seeksInAll() {
        Drive x = new Drive("seeks in all");
        x.text(6, "net 2;join 9 8 at 0 0;join 7 6 at 0 0;join 5 4 at 16 16;join 3 2 at 0 16;join 1 0 at 20 10");
        // Reality 0: 1 has 4, 3 has 5, 4 has 12, 0 has 13, 2 has 7. Reality 1: 1 has 4, 3 has 5, 0 has 6, 2 has 14, 4 has 15.
        // Key 3 lies at (20, 17), node 2's, and at (12, 12), node 1's.
        x.due(3, "put", 3, 1).due(0, "seek", 1, 3, 0).due(0, "seek", 2, 3, 0);
        // 3 is 5 far in reality 0 and 1 in reality 1: both 2 there and 1 here are at their point; the lesser reality goes ahead.
        x.due(1, "seek", 3, 3, 0).due(2, "seek", 3, 3, 2).due(4, "seek", 3, 3, 1);
        // 4 is beside 2 in both, and beside 1 in reality 0 alone: there it is at 2 with 1 hop.
        x.due(1, "seek", 4, 3, 0).due(2, "seek", 4, 3, 2).due(1, "seek", 0, 3, 0).due(2, "seek", 0, 3, 2);
        // Without the copy of reality 0 the way goes by reality 1.
        x.due(4, "go", 2, 1).due(2, "key", 3, 1).due(1, "seek", 3, 3, 2).due(1, "seek", 3, 3, 0).due(8, "seek", 3, 3, 1);
        x.due(1, "seek", 0, 3, 2).due(1, "seek", 0, 3, 0).due(2, "seek", 4, 3, 0).due(1, "seek", 4, 3, 2);
    }

    private static void stuckSeeks() {
        Drive x = GoTest.quarters("stuck seeks");
        x.due(-1, "seek", 3, 3, 0).due(0, "seek", 3, 3, 1).due(3, "seek", 3, 3, 2).due(1, "seek", 3, 3, 3).due(1, "seek", 3, 3, 4);
        x.due(1, "put", 3, 1).due(3, "go", 0, 1).due(2, "go", 1, 1).due(-1, "seek", 3, 3, 0).due(3, "seek", 3, 3, 2).due(0, "seek", 3, 3, 1);
        x.due(0, "seek", 2, 3, 0).due(1, "go", 2, 1).due(0, "key", 3, 1).due(-1, "seek", 3, 3, 0).state("seek", 2, 3, 0);
        Drive y = GoTest.quarters("stuck behind a hop");
        // Node 4 has 8, node 3 has 9, who is nearer to key 3 at node 2; all others beside them are dead.
        y.due(4, "join", 3, 4, 0, 0).due(1, "put", 3, 1).due(4, "go", 0, 1).due(3, "go", 1, 1).due(1, "key", 3, 1);
        y.due(-1, "seek", 4, 3, 0).due(3, "seek", 4, 3, 2).due(7, "seek", 4, 3, 1).due(1, "seek", 4, 3, 3).due(1, "seek", 4, 3, 4);
    }

    private static void surveys() {
        Drive x = GoTest.quarters("surveys");
        x.due(16, "ways", 0, 0).due(12, "ways", 0, 1).due(0, "ways", 0, 2).due(2, "reality", 0, 3).due(4, "ways", 0, 3);
        x.due(3, "go", 0, 1).due(8, "ways", 0, 0).due(6, "ways", 0, 1).due(2, "ways", 0, 2).due(2, "reality", 0, 3);
        x.due(2, "go", 1, 1).due(0, "ways", 0, 0).due(0, "ways", 0, 1).due(0, "ways", 0, 2).due(-1, "reality", 0, 3);
        x.due(1, "go", 2, 1).due(0, "ways", 0, 1).due(-1, "reality", 0, 3).due(4, "ways", 0, 3).due(0, "go", 3, 1).due(-1, "ways", 0, 3);
        Drive y = new Drive("survey of two");
        y.does("join", 0, 0, 0, 0).due(0, "ways", 0, 0).due(-1, "reality", 0, 3).due(1, "ways", 0, 3);
        y.does("join", 0, 0, 0, 0).due(2, "ways", 0, 0).due(2, "ways", 0, 1).due(1, "reality", 0, 3).due(2, "ways", 0, 3);
        y.due(1, "go", 1, 1).due(0, "ways", 0, 1).due(3, "ways", 0, 3);
        // Without node 1 the ways between 3 and those in 7 (nodes 2 and 4) all go by node 0.
        Drive z = GoTest.quarters("hinges");
        z.due(4, "join", 0, 0, 31, 31).due(0, "ways", 0, 2).due(4, "go", 1, 1).due(1, "ways", 0, 2);
    }

    private static void spots() {
        Drive x = new Drive("spots");
        x.text(4, "net 2;join 0 0 at 0 0;join 0 0 at 10 0;join 0 0 at 10 0");
        x.due(3, "ways", 0, 3).due(2, "ways", 1, 3).due(2, "go", 0, 1).due(4, "ways", 0, 3).due(6, "ways", 1, 3).due(1, "go", 2, 1);
        x.due(5, "ways", 0, 3).due(7, "ways", 1, 3);
    }

    private static void wrongNumbers() {
        Drive x = GoTest.quarters("wrong numbers");
        for (int bad : new int[] {-1, 10, Integer.MIN_VALUE, Integer.MAX_VALUE}) {
            x.index("way", bad, 0, 99, 0, 0).index("way", 0, bad, 99, 0, 0).index("seek", bad, 0, 9).index("ways", bad, 9);
            x.element("seek", 9, 0, bad).element("ways", 0, bad);
        }
        for (int bad : new int[] {-1, 32, Integer.MIN_VALUE, Integer.MAX_VALUE}) {
            x.argument("way", 0, 0, bad, 0, 0).argument("way", 0, 0, 0, bad, 0).argument("way", 9, 0, bad, 0, 0);
        }
        x.index("way", 0, 1, 0, 0, 0).element("seek", 0, 0, 5).element("ways", 0, 4).index("ways", 1, 0).index("ways", 1, 9);
        x.state("way", 9, 0, 0, 0, 0).state("seek", 9, 0, 4).due(0, "why");
    }
}
