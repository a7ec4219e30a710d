/** WAYS at their edges: no step, the last step, a step that is not nearer, the dead, copies that are lost, STRETCH. */
public final class StuckTest {
    public static void main(String[] args) {
        kOfAWay();
        likeFarIsStuck();
        nearerIsNot();
        theDeadAreNotGoneOnTo();
        leastOfSeveral();
        noCopyHeld();
        lostCopiesAreNotSought();
        endsAtTheFirstPoint();
        lesserRealityThenNode();
        leastOfAllItsRealities();
        asFarAsItGoes();
        stretches();
        worstAndAll();
        hinges();
        spots();
        hubs();
        Drive.finish();
    }

    /** Node 0 has 2, node 1 has 6, node 2 has 7. */
    private static Drive three(String title) {
        Drive x = new Drive(title);
        x.due(0, "join", 10, 10, 0, 0).due(1, "join", 20, 30, 20, 5).due(2, "join", 0, 0, 20, 20);
        return x.due(2, "zone", 0, 0, 0).due(6, "zone", 1, 0, 0).due(7, "zone", 2, 0, 0);
    }

    /** way: "HOPS (k NONE; NONE, if STUCK), else the k-th NODE (0 the first; also of one that is STUCK); NONE without". */
    private static void kOfAWay() {
        Drive x = GoTest.quarters("k");
        x.due(0, "way", 3, 0, 15, 15, -1).due(3, "way", 3, 0, 15, 15, 0).due(-1, "way", 3, 0, 15, 15, 1).due(-1, "way", 3, 0, 15, 15, -2);
        x.due(1, "way", 3, 0, 16, 15, -1).due(3, "way", 3, 0, 16, 15, 0).due(0, "way", 3, 0, 16, 15, 1).due(-1, "way", 3, 0, 16, 15, 2);
        x.due(2, "way", 3, 0, 18, 16, -1).due(2, "way", 3, 0, 18, 16, 2).due(-1, "way", 3, 0, 18, 16, 3).due(-1, "way", 3, 0, 18, 16, Integer.MAX_VALUE);
        x.due(-1, "way", 3, 0, 18, 16, Integer.MIN_VALUE).due(3, "go", 2, 1).due(-1, "way", 3, 0, 18, 16, -1).due(3, "way", 3, 0, 18, 16, 0);
        x.due(0, "way", 3, 0, 18, 16, 1).due(-1, "way", 3, 0, 18, 16, 2);
    }

    /** "if that is less than FAR of itself; else it is STUCK": one as far as itself is not less. */
    private static void likeFarIsStuck() {
        Drive x = three("as far as itself");
        // Zone 7 is of the dead: (16, 16) is 1 from zone 2 by x, and 1 from zone 6 by y; (18, 17) is 3 and 2.
        x.due(2, "go", 2, 1).due(-1, "way", 0, 0, 16, 16, -1).due(0, "way", 0, 0, 16, 16, 0).due(-1, "way", 0, 0, 16, 16, 1);
        x.due(-1, "way", 1, 0, 16, 16, -1).due(-1, "way", 1, 0, 16, 16, 1).due(-1, "way", 0, 0, 31, 31, 1).due(-1, "way", 1, 0, 31, 31, 1);
    }

    private static void nearerIsNot() {
        Drive x = three("nearer than itself");
        x.due(2, "go", 2, 1).due(-1, "way", 0, 0, 18, 17, -1).due(1, "way", 0, 0, 18, 17, 1).due(-1, "way", 0, 0, 18, 17, 2);
        x.due(0, "way", 1, 0, 17, 18, 1).due(-1, "way", 1, 0, 17, 18, 2).due(-1, "way", 1, 0, 18, 17, 1);
    }

    /** "on to that UP NODE": a dead one that is nearer, or has the point, is passed by. */
    private static void theDeadAreNotGoneOnTo() {
        Drive x = GoTest.quarters("the dead");
        x.due(0, "way", 3, 0, 18, 16, 1).due(3, "go", 0, 1).due(1, "way", 3, 0, 18, 16, 1).due(2, "way", 3, 0, 18, 16, 2).due(2, "way", 3, 0, 18, 16, -1);
        x.due(-1, "way", 3, 0, 16, 15, -1).due(2, "go", 1, 1).due(-1, "way", 3, 0, 18, 16, -1).due(-1, "way", 3, 0, 18, 16, 1);
        // From nobody that is dead or away.
        x.state("way", 0, 0, 18, 16, -1).state("way", 9, 0, 18, 16, 0).due(0, "way", 2, 0, 18, 16, -1);
    }

    /** "whose FAR is the least, of several the least". */
    private static void leastOfSeveral() {
        Drive x = GoTest.quarters("of several the least");
        x.due(0, "way", 3, 0, 16, 16, 1).due(0, "way", 3, 0, 31, 31, 1).due(0, "way", 2, 0, 0, 0, 1).due(0, "way", 2, 0, 15, 15, 1);
        x.due(2, "way", 1, 0, 16, 15, 1).due(2, "way", 0, 0, 15, 16, 1).due(1, "way", 3, 0, 16, 17, 1).due(0, "way", 3, 0, 17, 16, 1);
    }

    /** "STUCK also without a copy that is HELD": not stored, or all lost. */
    private static void noCopyHeld() {
        Drive x = three("no copy held");
        for (int node = 0; node < 3; node++) {
            x.due(-1, "seek", node, 8, 0).due(0, "seek", node, 8, 1).due(node, "seek", node, 8, 2).due(1, "seek", node, 8, 3).due(1, "seek", node, 8, 4);
        }
        // Key 8 is node 1's: with it dead, or noticed, the copy is lost; mended it can't be, but put anew.
        x.due(1, "put", 8, 7).due(1, "seek", 0, 8, 0).due(2, "go", 1, 1).due(-1, "seek", 0, 8, 0).due(0, "seek", 0, 8, 2).due(0, "seek", 0, 8, 1);
        x.due(2, "go", 1, 2).due(2, "point", 8, 0, 2).due(-1, "seek", 2, 8, 0).due(0, "mend").due(-1, "seek", 2, 8, 0).due(1, "put", 8, 7).due(0, "seek", 2, 8, 0);
    }

    /** Key 3 lies at (20, 17) and (12, 12): node 1's and node 0's. */
    private static Drive two(String title) {
        Drive x = new Drive(title);
        return x.text(4, "net 2;join 5 0 at 0 0;join 0 1 at 16 0;put 3 4").due(1, "point", 3, 0, 2).due(0, "point", 3, 1, 2);
    }

    /** "POINTS of its copies that are HELD, in their REALITIES": the point of a lost one is no end. */
    private static void lostCopiesAreNotSought() {
        Drive x = two("lost copies");
        x.due(0, "seek", 0, 3, 0).due(0, "seek", 1, 3, 0).due(1, "go", 1, 1).due(1, "go", 1, 2).due(2, "key", 3, 1).due(1, "join", 0, 1, 16, 0);
        // Node 1 has the point of the lost copy again, but not that of the one that is held.
        x.due(1, "point", 3, 0, 2).due(0, "point", 3, 1, 2).due(1, "seek", 1, 3, 0).due(0, "seek", 1, 3, 2).due(6, "seek", 1, 3, 1);
        x.due(1, "mend").due(0, "seek", 1, 3, 0).due(1, "seek", 1, 3, 2);
    }

    /** "it ends as soon as such a POINT is in a ZONE of the NODE", in whichever reality. */
    private static void endsAtTheFirstPoint() {
        Drive x = two("the first point");
        x.due(0, "seek", 0, 3, 0).due(0, "seek", 0, 3, 1).due(0, "seek", 0, 3, 2).due(0, "seek", 1, 3, 0).due(1, "seek", 1, 3, 2);
        x.due(1, "seek", 1, 3, 3).due(1, "seek", 1, 3, 4);
    }

    /** "of several by the lesser REALITY, then NODE". */
    private static void lesserRealityThenNode() {
        Drive x = new Drive("lesser reality");
        x.text(6, "net 2;join 9 8 at 0 0;join 7 6 at 0 0;join 5 4 at 16 16;join 3 2 at 0 16;join 1 0 at 20 10");
        // Of key 3 node 2 has the point in reality 0, node 1 that of reality 1; both are beside node 3 there.
        x.due(3, "put", 3, 1).due(2, "point", 3, 0, 2).due(1, "point", 3, 1, 2).due(2, "seek", 3, 3, 2).due(1, "seek", 3, 3, 0);
        // In one reality both are as far: the lesser node goes ahead.
        Drive y = GoTest.quarters("then node");
        y.due(1, "put", 3, 1).due(20, "point", 3, 0, 0).due(17, "point", 3, 0, 1).due(14, "seek", 3, 3, 1);
    }

    /** "FAR of a NODE being the least to POINTS of its copies": who is nearer in one reality alone than it is itself there is not nearer. */
    private static void leastOfAllItsRealities() {
        Drive x = new Drive("least of all its realities");
        x.text(9, "net 2;join 0 0 at 8 16;join 0 9 at 12 8;put 23 1;join 0 0 at 24 8;join 0 0 at 12 0;crash 3;join 4 6 at 8 16;crash 0");
        // In reality 0 node 1 has 10 and 4 has 11, 15 and 16 far from (24, 9); in reality 1 15 and 14, 15 and 14 far from (8, 10).
        x.due(10, "zone", 1, 0, 0).due(15, "zone", 1, 1, 0).due(11, "zone", 4, 0, 0).due(14, "zone", 4, 1, 0).due(3, "key", 23, 1);
        x.due(-1, "seek", 1, 23, 0).due(4, "seek", 1, 23, 2).due(7, "seek", 1, 23, 1).due(-1, "seek", 4, 23, 0).due(4, "seek", 4, 23, 2);
        x.due(0, "seek", 4, 23, 1).due(0, "seek", 2, 23, 0);
    }

    /** "(1 to 4: as far as it goes)". */
    private static void asFarAsItGoes() {
        Drive x = GoTest.quarters("as far as it goes");
        x.due(4, "join", 3, 4, 0, 0).due(1, "put", 3, 1).due(4, "go", 0, 1).due(3, "go", 1, 1);
        x.due(-1, "seek", 4, 3, 0).due(3, "seek", 4, 3, 2).due(7, "seek", 4, 3, 1).due(1, "seek", 4, 3, 3).due(1, "seek", 4, 3, 4);
        x.due(-1, "seek", 3, 3, 0).due(3, "seek", 3, 3, 2).due(0, "seek", 3, 3, 1).due(1, "seek", 3, 3, 3).due(1, "seek", 3, 3, 4);
    }

    private static void stretch(String title, String places, int delay, int upper, int lower) {
        String[] at = places.split(",");
        Drive x = new Drive(title);
        x.text(4, "join " + at[0] + " at 0 0;join 50 50 at 0 0;join " + at[1] + " at 31 31;join " + at[2] + " at 0 0").does("put", 3, 1);
        // From node 3 by node 0 to node 2.
        x.due(2, "seek", 3, 3, 0).due(2, "seek", 3, 3, 2).due(delay, "seek", 3, 3, 1).due(upper, "seek", 3, 3, 3).due(lower, "seek", 3, 3, 4);
    }

    /** "DELAY by what PLACES of the first and the last NODE differ by, in lowest terms (1 by 1, if both are 0; DELAY by 0 as 1 by 0)". */
    private static void stretches() {
        stretch("straight", "5 5,9 9,0 0", 18, 1, 1);
        stretch("lowest terms", "10 0,6 0,0 0", 14, 7, 3);
        stretch("already lowest", "7 0,6 0,1 0", 7, 7, 5);
        stretch("whole", "9 0,3 0,0 0", 15, 5, 1);
        stretch("by 0", "9 9,4 4,4 4", 20, 1, 0);
        stretch("1 by 0", "4 5,4 4,4 4", 2, 1, 0);
        stretch("both 0", "4 4,4 4,4 4", 0, 1, 1);
        stretch("the farthest", "0 0,99 99,99 99", 396, 1, 0);
        stretch("far and near", "0 0,99 98,99 99", 395, 395, 1);
    }

    /** "that are not STUCK, the most HOPS; none without"; "HOPS of these WAYS, together, and how many". */
    private static void worstAndAll() {
        Drive x = three("worst and all");
        x.due(1, "reality", 0, 3).due(6, "ways", 0, 0).due(6, "ways", 0, 1).due(2, "go", 2, 1).due(1, "reality", 0, 3).due(2, "ways", 0, 0);
        x.due(2, "ways", 0, 1).due(1, "go", 1, 1).due(-1, "reality", 0, 3).due(0, "ways", 0, 0).due(0, "ways", 0, 1);
        // Two across, with the others dead: both ways are stuck, and none is left.
        Drive y = GoTest.quarters("all are stuck");
        y.due(2, "reality", 0, 3).due(16, "ways", 0, 0).due(12, "ways", 0, 1).due(3, "go", 0, 1).due(2, "go", 1, 1);
        y.due(-1, "reality", 0, 3).due(0, "ways", 0, 0).due(0, "ways", 0, 1).due(0, "ways", 0, 2).due(4, "ways", 0, 3);
        // To the first zone by numbers of one that has two.
        Drive z = new Drive("the first zone");
        z.text(4, "join 0 0 at 0 0;join 0 0 at 16 0;join 0 0 at 16 16;join 0 0 at 24 16").due(3, "go", 1, 0).due(6, "zone", 2, 0, 0).due(14, "zone", 2, 0, 1);
        z.due(1, "reality", 0, 3).due(6, "ways", 0, 0).due(6, "ways", 0, 1);
    }

    /** "between two others": neither the first nor the last of a way is a hinge of it. */
    private static void hinges() {
        Drive x = new Drive("two have no hinge");
        x.due(0, "ways", 0, 2).does("join", 0, 0, 0, 0).due(0, "ways", 0, 2).does("join", 0, 0, 0, 0).due(0, "ways", 0, 2);
        Drive y = GoTest.quarters("hinges");
        y.due(0, "ways", 0, 2).due(3, "go", 1, 1).due(1, "ways", 0, 2).due(2, "go", 0, 1).due(0, "ways", 0, 2);
        // Asking changes nothing.
        Look.same("asking for hinges", z -> z.text(5, "join 0 0 at 0 0;join 0 0 at 0 0;join 0 0 at 31 31;join 0 0 at 0 0;crash 1"),
            z -> z.due(1, "ways", 0, 2));
    }

    /** "the ZONE of the least DEPTH of an UP NODE, of several the least". */
    private static void spots() {
        Drive x = three("spots");
        x.due(2, "ways", 0, 3).due(2, "go", 0, 1).due(6, "ways", 0, 3).due(1, "go", 1, 1).due(7, "ways", 0, 3).due(0, "go", 2, 1).due(-1, "ways", 0, 3);
        x.due(2, "cell", 0, 0, 0, 0);
    }

    /** "BESIDE the most other ones that are not AWAY, of several the least": the dead count, but none of them is it. */
    private static void hubs() {
        Drive x = three("hubs");
        x.due(0, "reality", 0, 2).due(2, "go", 0, 1).due(1, "reality", 0, 2).due(0, "held", 0, 0, 4).due(1, "held", 1, 0, 4).due(0, "held", 2, 0, 4);
        Drive y = GoTest.quarters("hub beside the dead");
        // Node 4 has 15: 0, 1 and 4 have three beside them, 2 has three, 3 has two.
        y.due(4, "join", 0, 0, 31, 31).due(0, "reality", 0, 2).due(4, "go", 0, 1).due(1, "reality", 0, 2).due(3, "go", 1, 1);
        y.due(2, "reality", 0, 2).due(2, "go", 2, 1).due(4, "reality", 0, 2).due(1, "go", 4, 1).due(3, "reality", 0, 2);
    }
}
