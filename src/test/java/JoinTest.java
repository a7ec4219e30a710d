/** Promises 7 (join), 8 (near) and 26 (order). */
public final class JoinTest {
    public static void main(String[] args) {
        firstHasAll();
        halfWithThePoint();
        pointsOfOtherRealities();
        downToOneCell();
        leastNodeAway();
        refusals();
        wrongNumbers();
        orders();
        nearerByOne();
        nearPoints();
        nearPlaces();
        nearRefusals();
        Drive.finish();
    }

    private static void firstHasAll() {
        Drive x = new Drive("first");
        x.text(1, "net 3").due(0, "join", 99, 0, 31, 17);
        for (int r = 0; r < 3; r++) {
            x.due(1, "zone", 0, r, 0).due(-1, "zone", 0, r, 1).due(1024, "held", 0, r, 1).due(0, "cell", r, 0, 0, 1);
        }
        x.due(1, "node", 0, 0).due(99, "node", 0, 1).due(0, "node", 0, 2).due(1, "count", 1).due(0, "why");
    }

    private static void halfWithThePoint() {
        int[][] rows = {{0, 0, 2, 3}, {15, 31, 2, 3}, {16, 0, 3, 2}, {31, 31, 3, 2}};
        for (int[] row : rows) {
            Drive x = new Drive("half across x of " + row[0]);
            x.does("join", 0, 0, 9, 9).due(1, "join", 1, 1, row[0], row[1]);
            x.due(row[2], "zone", 1, 0, 0).due(row[3], "zone", 0, 0, 0).due(512, "held", 0, 0, 1).due(512, "held", 1, 0, 1);
        }
        int[][] second = {{0, 15, 4, 5}, {15, 16, 5, 4}, {7, 31, 5, 4}};
        for (int[] row : second) {
            Drive x = new Drive("half across y of " + row[1]);
            x.does("join", 0, 0, 9, 9).does("join", 1, 1, 0, 0).due(2, "join", 2, 2, row[0], row[1]);
            x.due(3, "zone", 0, 0, 0).due(row[3], "zone", 1, 0, 0).due(row[2], "zone", 2, 0, 0);
        }
    }

    private static void pointsOfOtherRealities() {
        Drive x = new Drive("other realities");
        // (25, 30) is (4, 5) in reality 1 and (15, 12) in reality 2.
        x.text(1, "net 3").does("join", 0, 0, 0, 0).due(1, "join", 0, 0, 25, 30).due(2, "join", 0, 0, 25, 30);
        x.due(2, "zone", 0, 0, 0).due(6, "zone", 1, 0, 0).due(7, "zone", 2, 0, 0);
        x.due(3, "zone", 0, 1, 0).due(5, "zone", 1, 1, 0).due(4, "zone", 2, 1, 0);
        x.due(3, "zone", 0, 2, 0).due(5, "zone", 1, 2, 0).due(4, "zone", 2, 2, 0);
        x.due(3, "join", 0, 0, 25, 30);
        x.due(15, "zone", 3, 0, 0).due(14, "zone", 2, 0, 0).due(8, "zone", 3, 1, 0).due(9, "zone", 2, 1, 0);
        x.due(9, "zone", 3, 2, 0).due(8, "zone", 2, 2, 0);
    }

    /** Ten nodes at one cell make it a zone of depth 9; with one that comes again it is of depth 10. */
    private static Drive tenAtOneCell(String title, int x, int y) {
        Drive drive = new Drive(title);
        for (int node = 0; node < 10; node++) {
            drive.due(node, "join", node, node, x, y);
        }
        return drive;
    }

    private static void downToOneCell() {
        Drive x = tenAtOneCell("one cell", 31, 31);
        for (int node = 0; node < 9; node++) {
            x.due((2 << node) + (1 << node) - 1 + ((1 << node) - 1), "zone", node, 0, 0);
        }
        x.due(1023, "zone", 9, 0, 0).due(2, "held", 9, 0, 1).due(1023, "cell", 0, 31, 30, 0);
        x.due(9, "go", 3, 0).due(3, "join", 5, 5, 31, 31).due(2047, "zone", 3, 0, 0).due(1, "held", 3, 0, 1);
        x.due(2046, "zone", 9, 0, 0).due(9, "cell", 0, 31, 30, 1);
    }

    private static void leastNodeAway() {
        Drive x = new Drive("least away");
        x.due(0, "join", 1, 1, 0, 0).due(1, "join", 2, 2, 20, 0).due(2, "join", 3, 3, 20, 20).due(3, "join", 4, 4, 0, 20);
        x.due(3, "go", 2, 0).due(2, "go", 1, 0).due(1, "join", 8, 9, 20, 0).due(8, "node", 1, 1).due(9, "node", 1, 2);
        x.due(2, "join", 6, 7, 20, 20).due(4, "join", 5, 5, 9, 9).due(4, "go", 0, 1).due(5, "join", 5, 5, 20, 20);
    }

    private static void refusals() {
        Drive x = tenAtOneCell("no node away", 0, 0);
        x.refused(1, "join", 0, 0, 16, 0).due(9, "go", 0, 0).due(0, "join", 0, 0, 0, 0).due(1024, "zone", 0, 0, 0);
        x.refused(1, "join", 0, 0, 0, 0).due(9, "go", 5, 0).refused(2, "join", 0, 0, 0, 0).due(0, "node", 5, 0);
        x.due(8, "go", 0, 1).refused(2, "join", 0, 0, 0, 0).due(7, "go", 8, 1).refused(3, "join", 0, 0, 1, 0);
        x.due(5, "join", 0, 0, 31, 31).due(0, "why");
        Drive y = new Drive("of the dead");
        y.text(3, "net 2;join 0 0 at 0 0;join 0 0 at 20 0").due(1, "go", 1, 1).refused(3, "join", 5, 5, 31, 0);
        // At (10, 0) reality 0 is node 0's, but (21, 7) in reality 1 is node 1's.
        y.refused(3, "join", 5, 5, 10, 0).due(2, "join", 5, 5, 4, 0).due(2, "count", 2);
    }

    private static void wrongNumbers() {
        Drive x = new Drive("wrong numbers");
        for (int bad : new int[] {-1, 100, Integer.MIN_VALUE, Integer.MAX_VALUE}) {
            x.argument("join", bad, 0, 0, 0).argument("join", 0, bad, 0, 0);
            x.argument("near", bad, 0).argument("near", 0, bad).argument("order", bad, 0).argument("order", 0, bad);
        }
        for (int bad : new int[] {-1, 32, Integer.MIN_VALUE, Integer.MAX_VALUE}) {
            x.argument("join", 0, 0, bad, 0).argument("join", 0, 0, 0, bad);
        }
        x.due(0, "count", 1).due(0, "why").due(0, "count", 7).due(0, "join", 99, 99, 31, 31);
        Drive y = tenAtOneCell("wrong ahead of refused", 0, 0);
        y.argument("join", 100, 0, 0, 0).argument("near", 100, 0).due(0, "why").refused(1, "near", 0, 0);
    }

    private static void orders() {
        Drive x = new Drive("orders");
        x.due(0, "order", 0, 0).text(1, "landmark 10 10").due(0, "order", 99, 99).text(1, "landmark 90 10");
        x.due(0, "order", 10, 10).due(1, "order", 90, 10).due(0, "order", 50, 50).due(1, "order", 51, 0).due(0, "order", 49, 99);
        x.text(1, "landmark 50 90").due(3, "count", 3);
        x.due(0, "order", 10, 10).due(1, "order", 10, 60).due(2, "order", 90, 10);
        x.due(3, "order", 90, 60).due(4, "order", 50, 90).due(5, "order", 60, 90);
        Drive y = new Drive("like landmarks");
        y.text(3, "landmark 50 50;landmark 50 50;landmark 50 50").due(0, "order", 0, 0).due(0, "order", 50, 50);
        Drive z = new Drive("the first two alike");
        z.text(3, "landmark 60 50;landmark 40 50;landmark 50 52").due(4, "order", 50, 52).due(3, "order", 20, 50);
        // The places do not go round: 99 and 0 are 99 apart.
        Drive w = new Drive("not round");
        w.text(2, "landmark 99 0;landmark 50 0").due(1, "order", 0, 0);
    }

    /** "by how far they are from the PLACE .. of like ones the lesser number ahead": one step more or less decides. */
    private static void nearerByOne() {
        Drive x = new Drive("nearer by one");
        x.text(2, "landmark 10 0;landmark 21 0").due(0, "order", 15, 0).due(1, "order", 16, 0).due(0, "order", 15, 99).due(1, "order", 16, 99);
        x.text(3, "net 1;landmark 21 0;landmark 10 0").due(1, "order", 15, 0).due(0, "order", 16, 0);
        x.text(3, "net 1;landmark 0 10;landmark 0 20").due(0, "order", 0, 14).due(0, "order", 0, 15).due(1, "order", 0, 16);
        x.text(3, "net 1;landmark 0 20;landmark 0 10").due(1, "order", 0, 14).due(0, "order", 0, 15).due(0, "order", 0, 16);
        // Of the second and the third one the nearer one goes ahead, and of like ones the second.
        x.text(4, "net 1;landmark 0 0;landmark 50 10;landmark 50 20").due(3, "order", 40, 14).due(5, "order", 40, 16).due(3, "order", 40, 15);
        x.text(4, "net 1;landmark 50 50;landmark 50 50;landmark 50 49").due(0, "order", 50, 50).due(4, "order", 50, 49).due(4, "order", 0, 0);
        x.text(4, "net 1;landmark 50 49;landmark 50 50;landmark 50 49").due(1, "order", 50, 49).due(2, "order", 50, 50).due(1, "order", 0, 0);
    }

    /** NEAR: the node has the PLACE that was told, and lies by both of its numbers. */
    private static void nearPlaces() {
        Drive x = new Drive("near places");
        x.due(0, "near", 7, 93).due(7, "node", 0, 1).due(93, "node", 0, 2).text(1, "join 94 6 near").due(94, "node", 1, 1).due(6, "node", 1, 2);
        // By Y alone: who is nearer to the second landmark comes to x 16, whose node is up or dead.
        for (int dead = 0; dead < 2; dead++) {
            Drive y = new Drive("near by Y, " + dead + " is dead");
            y.text(4, "landmark 0 0;landmark 0 99;join 1 1 at 0 0;join 1 1 at 16 0").due(1, "go", dead, 1);
            if (dead == 0) {
                y.refused(3, "near", 0, 0).refused(3, "near", 99, 49).due(2, "near", 0, 99);
            } else {
                y.refused(3, "near", 0, 99).refused(3, "near", 99, 50).due(2, "near", 0, 0);
            }
        }
    }

    private static Drive nearAfterOne(String title, int landmarks) {
        Drive x = new Drive(title);
        x.does("join", 0, 0, 0, 0);
        String[] marks = {"landmark 10 10", "landmark 90 10", "landmark 50 90"};
        for (int i = 0; i < landmarks; i++) {
            x.text(1, marks[i]);
        }
        return x;
    }

    private static void nearPoints() {
        nearAfterOne("near without", 0).due(1, "near", 99, 99).due(2, "zone", 1, 0, 0).due(99, "node", 1, 1)
            .due(2, "near", 8, 8).due(5, "zone", 2, 0, 0).due(3, "near", 8, 7).due(9, "zone", 1, 0, 0).due(8, "zone", 3, 0, 0);
        nearAfterOne("near one", 1).due(1, "near", 99, 99).due(2, "zone", 1, 0, 0);
        nearAfterOne("near two, the first", 2).due(1, "near", 10, 10).due(2, "zone", 1, 0, 0);
        nearAfterOne("near two, the second", 2).due(1, "near", 90, 10).due(3, "zone", 1, 0, 0)
            .due(2, "near", 90, 10).due(6, "zone", 2, 0, 0).due(3, "near", 90, 10).due(12, "zone", 3, 0, 0);
        // Of six orders, order 3 is at x 15 (not 16), order 4 at 20, order 5 at 25.
        nearAfterOne("near three, order 3", 3).due(1, "near", 90, 60).due(2, "zone", 1, 0, 0).due(2, "near", 90, 60)
            .due(5, "zone", 2, 0, 0).due(3, "near", 90, 60).due(11, "zone", 3, 0, 0);
        nearAfterOne("near three, order 4", 3).due(1, "near", 50, 90).due(3, "zone", 1, 0, 0).due(2, "near", 50, 90)
            .due(6, "zone", 2, 0, 0).due(3, "near", 50, 90).due(12, "zone", 3, 0, 0);
        nearAfterOne("near three, order 5", 3).due(1, "near", 60, 90).due(3, "zone", 1, 0, 0).due(2, "near", 60, 90)
            .due(7, "zone", 2, 0, 0).due(3, "near", 60, 90).due(15, "zone", 3, 0, 0);
        Drive x = new Drive("near in realities");
        // The point is (0, 30), and (11, 5) and (22, 12).
        x.text(3, "net 3;join 0 0 at 0 0;join 15 15 near").due(2, "near", 15, 15).due(5, "zone", 2, 0, 0);
        x.due(4, "zone", 2, 1, 0).due(6, "zone", 2, 2, 0);
    }

    private static void nearRefusals() {
        Drive x = new Drive("near refused");
        for (int node = 0; node < 10; node++) {
            x.due(node, "near", 0, 0);
        }
        x.refused(1, "near", 0, 0).due(9, "go", 0, 0).due(0, "near", 0, 0).due(9, "go", 1, 0).refused(2, "near", 0, 0);
        x.due(8, "go", 7, 1).refused(3, "near", 0, 2).due(1, "near", 0, 4);
    }
}
