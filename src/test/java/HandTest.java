/** ZONES that are HANDED, MERGED and tidied, at the edges: the deepest, node 0, what was merged before, what comes first. */
public final class HandTest {
    public static void main(String[] args) {
        halvesAreGoneWhenMerged();
        risingByNumbers();
        volumeAsItIsThen();
        eachRealityByItself();
        heirIsOfThisZoneFirst();
        emptyBehindTheLast();
        nodeZeroHasStrays();
        pairOfSingleCells();
        nodeZeroHasTheLesserHalf();
        nodeZeroHasTheGreaterHalf();
        pairInTheVeryLastZone();
        pairsElsewhereAreDeeper();
        onePairAfterAnother();
        Drive.finish();
    }

    /** "it has that ZONE in place of them": what comes to it later stands next by numbers. */
    private static void halvesAreGoneWhenMerged() {
        Drive x = GoTest.quarters("halves are gone");
        // Node 1 gets 4 to its 5, which makes 2; then 6, as 7 is a dead node's.
        x.due(3, "go", 2, 1).due(2, "go", 3, 0).due(2, "zone", 1, 0, 0).due(-1, "zone", 1, 0, 1).due(1, "go", 0, 0);
        x.due(2, "zone", 1, 0, 0).due(6, "zone", 1, 0, 1).due(-1, "zone", 1, 0, 2).due(2, "held", 1, 0, 0).due(768, "held", 1, 0, 1);
        x.due(2, "reality", 0, 4).due(3, "reality", 0, 0).due(2, "ways", 0, 3).due(1, "heir", 2, 0, 0).due(1, "go", 2, 2);
        x.due(1, "zone", 1, 0, 0).due(-1, "zone", 1, 0, 1).due(1, "reality", 0, 0).due(0, "reality", 0, 4);
        // Halved again, the zones are new ones, and nothing of the old ones is left.
        x.due(0, "join", 0, 0, 31, 0).due(3, "zone", 0, 0, 0).due(2, "zone", 1, 0, 0).due(-1, "zone", 1, 0, 1).due(0, "cell", 0, 16, 16, 1);
        // The same with the greater half: node 3 gets 5 to its 4.
        Drive y = GoTest.quarters("halves are gone, the greater one handed");
        y.due(3, "go", 2, 1).due(2, "go", 1, 0).due(2, "zone", 3, 0, 0).due(-1, "zone", 3, 0, 1).due(1, "go", 0, 0);
        y.due(2, "zone", 3, 0, 0).due(6, "zone", 3, 0, 1).due(-1, "zone", 3, 0, 2).due(1, "go", 2, 2).due(1, "zone", 3, 0, 0);
    }

    /** "its ZONES, by numbers, rising, are HANDED": the first takes who has the least, and has more for the second. */
    private static void risingByNumbers() {
        Drive x = new Drive("rising");
        // Node 0 has 2 in the end, 2 has 6 and 15, and of 14 node 1 has 28 and node 3 has 29.
        x.text(4, "join 0 0 at 0 0;join 0 0 at 16 0;join 0 0 at 24 16;join 0 0 at 16 24").due(6, "zone", 1, 0, 0).due(15, "zone", 2, 0, 0).due(14, "zone", 3, 0, 0);
        x.due(3, "go", 1, 0).due(6, "zone", 2, 0, 0).due(15, "zone", 2, 0, 1).due(1, "join", 0, 0, 16, 16).due(28, "zone", 1, 0, 0).due(29, "zone", 3, 0, 0);
        // Both have 64 cells and are beside 6 and 15: 6 goes to 1, and then 15 to 3, who has less by then.
        x.due(1, "heir", 2, 0, 0).due(1, "heir", 2, 0, 1).due(3, "go", 2, 0).due(6, "zone", 1, 0, 0).due(28, "zone", 1, 0, 1);
        x.due(15, "zone", 3, 0, 0).due(29, "zone", 3, 0, 1).due(320, "held", 1, 0, 1).due(192, "held", 3, 0, 1);
    }

    /** "of the least VOLUME there (as it is then)": not as it was ahead of the first ZONE. */
    private static void volumeAsItIsThen() {
        Drive x = new Drive("as it is then");
        x.text(4, "join 0 0 at 0 0;join 0 0 at 16 0;join 0 0 at 24 16;join 0 0 at 16 24").due(3, "go", 1, 0).due(1, "join", 0, 0, 16, 16);
        x.due(3, "go", 2, 1).due(1, "heir", 2, 0, 0).due(1, "heir", 2, 0, 1).due(3, "go", 2, 2).due(320, "held", 1, 0, 1).due(192, "held", 3, 0, 1);
    }

    /** VOLUME and BESIDE are those of the REALITY in which the ZONE is. */
    private static void eachRealityByItself() {
        Drive x = new Drive("each reality");
        x.text(6, "net 2;join 0 0 at 0 0;join 0 0 at 16 0;join 0 0 at 16 16;join 0 0 at 24 16;join 0 0 at 0 9");
        for (int r = 0; r < 2; r++) {
            for (int node = 0; node < 5; node++) {
                int heir = Integer.parseInt(x.call("heir", node, r, 0));
                Drive y = new Drive("heir of node " + node + " in reality " + r);
                y.text(6, "net 2;join 0 0 at 0 0;join 0 0 at 16 0;join 0 0 at 16 16;join 0 0 at 24 16;join 0 0 at 0 9");
                int cellX = Integer.parseInt(y.call("box", Integer.parseInt(y.call("zone", node, r, 0)), 1));
                int cellY = Integer.parseInt(y.call("box", Integer.parseInt(y.call("zone", node, r, 0)), 2));
                y.due(4, "go", node, 0).due(heir, "cell", r, cellX, cellY, 1);
            }
        }
    }

    /** HEIR: "were that NODE to leave .. now, this ZONE first": of each zone as if it were the first one. */
    private static void heirIsOfThisZoneFirst() {
        Drive x = new Drive("this zone first");
        x.text(4, "join 0 0 at 0 0;join 0 0 at 16 0;join 0 0 at 24 16;join 0 0 at 16 24").due(3, "go", 1, 0).due(1, "join", 0, 0, 16, 16);
        // The second zone goes to 3 in truth, but would go to 1, were it first; asking changes nothing.
        x.due(1, "heir", 2, 0, 1).due(1, "heir", 2, 0, 0).due(1, "heir", 2, 0, 1).due(6, "zone", 2, 0, 0).due(15, "zone", 2, 0, 1).due(64, "held", 1, 0, 1);
    }

    /** "(The last one of all: nobody has ZONES then ..)": nor VOLUME; who comes then has all cells, and no more. */
    private static void emptyBehindTheLast() {
        for (int how = 0; how < 2; how++) {
            Drive x = new Drive("behind the last, " + how);
            x.text(3, "net 3;join 0 0 at 0 0;join 0 0 at 20 0").due(1, "go", 0, 0);
            if (how == 0) {
                x.due(0, "go", 1, 0);
            } else {
                x.due(0, "go", 1, 1).due(0, "go", 1, 2);
            }
            volumes(x, 0, 0);
            x.due(0, "join", 3, 3, 9, 9);
            volumes(x, 1024, 0);
            x.text(1, "net 2").due(0, "held", 0, 0, 1).due(0, "held", 0, 1, 1).due(0, "held", 0, 0, 0).due(0, "join", 3, 3, 9, 9).due(1024, "held", 0, 1, 1);
        }
    }

    private static void volumes(Drive x, int first, int second) {
        for (int r = 0; r < 3; r++) {
            x.due(first, "held", 0, r, 1).due(second, "held", 1, r, 1).due(first > 0 ? 1 : 0, "held", 0, r, 0).due(0, "held", 1, r, 0);
            x.due(first > 0 ? 1 : 0, "reality", r, 0);
        }
    }

    /** Node 0 has 3 and 5, node 2 has 4. */
    private static Drive zeroScattered(String title) {
        Drive x = new Drive(title);
        x.due(0, "join", 0, 0, 0, 0).due(1, "join", 0, 0, 20, 0).due(2, "join", 0, 0, 0, 0).due(2, "go", 1, 0);
        return x.due(3, "zone", 0, 0, 0).due(5, "zone", 0, 0, 1).due(4, "zone", 2, 0, 0).due(2, "reality", 0, 4).due(3, "reality", 0, 0);
    }

    /** "of the least such NODE". */
    private static void nodeZeroHasStrays() {
        Drive x = zeroScattered("node 0 has strays");
        x.due(1, "tidy").due(3, "zone", 0, 0, 0).due(-1, "zone", 0, 0, 1).due(2, "zone", 2, 0, 0).due(0, "reality", 0, 4).due(0, "tidy");
    }

    /** "ZONES q .. whose both halves are ZONES .. of the greatest DEPTH": up to 9, of which the halves are single cells. */
    private static void pairOfSingleCells() {
        Drive x = zeroScattered("single cells");
        for (int node : new int[] {1, 3, 4, 5, 6, 7, 8, 9}) {
            x.due(node, "join", 0, 0, 0, 0);
        }
        x.due(1024, "zone", 9, 0, 0).due(1025, "zone", 8, 0, 0).due(9, "zone", 2, 0, 0).due(1, "tidy");
        x.due(512, "zone", 9, 0, 0).due(5, "zone", 8, 0, 0).due(3, "zone", 0, 0, 0).due(0, "reality", 0, 4).due(10, "reality", 0, 0);
    }

    /** Node 1 has 3 and 5, node 2 has 4, and node 0 is away. */
    private static Drive oneScattered(String title) {
        Drive x = new Drive(title);
        x.due(0, "join", 0, 0, 0, 0).due(1, "join", 0, 0, 0, 0).due(2, "join", 0, 0, 0, 0).due(2, "go", 0, 0);
        return x.due(3, "zone", 1, 0, 0).due(5, "zone", 1, 0, 1).due(4, "zone", 2, 0, 0);
    }

    /** "the NODE of 2q gets the other half 2q + 1, and the NODE that had that gets the STRAY one". */
    private static void nodeZeroHasTheLesserHalf() {
        Drive x = oneScattered("node 0 has 2q");
        x.due(0, "join", 0, 0, 0, 0).due(8, "zone", 0, 0, 0).due(9, "zone", 2, 0, 0).due(1, "tidy");
        x.due(4, "zone", 0, 0, 0).due(3, "zone", 1, 0, 0).due(5, "zone", 2, 0, 0).due(3, "reality", 0, 0);
    }

    private static void nodeZeroHasTheGreaterHalf() {
        Drive x = oneScattered("node 0 has 2q + 1");
        x.due(0, "join", 0, 0, 8, 0).due(9, "zone", 0, 0, 0).due(8, "zone", 2, 0, 0).due(1, "tidy");
        x.due(5, "zone", 0, 0, 0).due(3, "zone", 1, 0, 0).due(4, "zone", 2, 0, 0).due(3, "reality", 0, 0);
    }

    /** "of all ZONES q inside that other half": also where it is the last one by numbers, 7. */
    private static void pairInTheVeryLastZone() {
        Drive x = new Drive("the very last zone");
        x.due(0, "join", 0, 0, 8, 0).due(1, "join", 0, 0, 20, 12).due(2, "join", 0, 0, 20, 24).due(2, "go", 0, 0).due(0, "join", 0, 0, 16, 16);
        x.due(2, "zone", 1, 0, 0).due(6, "zone", 1, 0, 1).due(14, "zone", 0, 0, 0).due(15, "zone", 2, 0, 0).due(1, "tidy");
        x.due(7, "zone", 0, 0, 0).due(2, "zone", 1, 0, 0).due(6, "zone", 2, 0, 0).due(-1, "zone", 1, 0, 1);
    }

    /** Pairs that are deeper, but not inside that other half, stay as they are. */
    private static void pairsElsewhereAreDeeper() {
        Drive x = new Drive("pairs elsewhere");
        x.text(6, "join 0 0 at 0 0;join 0 0 at 31 31;join 0 0 at 31 31;join 0 0 at 0 31;join 0 0 at 31 0;join 0 0 at 0 31").due(1, "heir", 0, 0, 0);
        x.due(5, "go", 0, 0).due(4, "zone", 1, 0, 0).due(12, "zone", 1, 0, 1).due(0, "join", 0, 0, 31, 0).due(6, "join", 0, 0, 16, 16);
        x.due(7, "join", 0, 0, 16, 16).due(8, "join", 0, 0, 16, 16).due(26, "zone", 0, 0, 0).due(27, "zone", 4, 0, 0);
        // 13 is the pair inside; 28, whose halves are 56 and 57, is deeper, but inside 7.
        x.due(56, "zone", 8, 0, 0).due(57, "zone", 7, 0, 0).due(1, "tidy").due(13, "zone", 0, 0, 0).due(12, "zone", 4, 0, 0);
        x.due(4, "zone", 1, 0, 0).due(1, "held", 1, 0, 0).due(56, "zone", 8, 0, 0).due(57, "zone", 7, 0, 0).due(0, "reality", 0, 4);
    }

    /** "as long as some NODE has more than one ZONE"; both are done, and "MERGED each time", ahead of the next one. */
    private static void onePairAfterAnother() {
        Drive x = new Drive("one pair after another");
        x.due(0, "join", 0, 0, 24, 24).due(1, "join", 0, 0, 28, 12).due(2, "join", 0, 0, 0, 16).due(2, "go", 1, 0).due(1, "join", 0, 0, 8, 12);
        x.due(2, "go", 2, 0).due(2, "join", 0, 0, 0, 16).due(3, "join", 0, 0, 10, 12).due(3, "zone", 0, 0, 0).due(8, "zone", 0, 0, 1);
        x.due(11, "zone", 1, 0, 0).due(18, "zone", 1, 0, 1).due(10, "zone", 2, 0, 0).due(19, "zone", 3, 0, 0).due(6, "reality", 0, 0).due(4, "reality", 0, 4);
        // 8 of node 0: 1 gets 19, which makes 9, and 3 gets 8. Then 11 of node 1: 2 gets it, which makes 5.
        x.due(2, "tidy").due(3, "zone", 0, 0, 0).due(9, "zone", 1, 0, 0).due(5, "zone", 2, 0, 0).due(8, "zone", 3, 0, 0).due(4, "reality", 0, 0);
    }
}
