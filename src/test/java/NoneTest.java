/** NONE where there is none, promise by promise; and the calls on what is empty, and on what is full. */
public final class NoneTest {
    public static void main(String[] args) {
        placesOfWhoIsAway();
        zonesBeyondTheLast();
        cellsOfNobody();
        heirsOfNobody();
        valuesOfWhatIsNotStored();
        pointsOfNobody();
        realityWithoutNodes();
        realityWithOneNode();
        realityWithTheDeadAlone();
        countsOfNoSuchWhat();
        faultWithoutOne();
        realitiesAndTheirBound();
        emptyAgain();
        fullOfKeys();
        fullOfAll();
        lastCall();
        Drive.finish();
    }

    /** node: "(NONE of one that is AWAY)": at first, when it has left, when it was noticed; a dead one has its PLACE. */
    private static void placesOfWhoIsAway() {
        Drive x = new Drive("places");
        x.due(-1, "node", 0, 1).due(-1, "node", 0, 2).due(0, "node", 0, 0).due(0, "join", 0, 99, 0, 0).due(0, "node", 0, 1).due(99, "node", 0, 2);
        x.due(1, "join", 99, 0, 9, 9).due(99, "node", 1, 1).due(0, "node", 1, 2).due(-1, "node", 2, 1).due(-1, "node", 9, 2);
        x.due(1, "go", 0, 0).due(0, "node", 0, 0).due(-1, "node", 0, 1).due(-1, "node", 0, 2);
        x.due(0, "go", 1, 1).due(2, "node", 1, 0).due(99, "node", 1, 1).due(0, "node", 1, 2).due(0, "go", 1, 2).due(-1, "node", 1, 1).due(-1, "node", 1, 2);
        x.due(0, "join", 5, 6, 0, 0).due(5, "node", 0, 1).text(1, "net 1").due(0, "node", 0, 0).due(-1, "node", 0, 1);
    }

    /** zone: "The k-th ZONE .. by numbers; NONE without": 0 is the first. */
    private static void zonesBeyondTheLast() {
        Drive x = new Drive("zones");
        x.due(-1, "zone", 0, 0, 0).text(4, "join 0 0 at 0 0;join 0 0 at 16 0;join 0 0 at 16 16;join 0 0 at 24 16").due(3, "go", 1, 0);
        x.due(6, "zone", 2, 0, 0).due(14, "zone", 2, 0, 1).due(-1, "zone", 2, 0, 2).due(-1, "zone", 2, 0, -1).due(-1, "zone", 2, 0, -2);
        x.due(2, "zone", 0, 0, 0).due(-1, "zone", 0, 0, 1).due(-1, "zone", 1, 0, 0).due(-1, "zone", 9, 0, 0);
        // The dead have their zones; who was noticed has none.
        x.due(2, "go", 2, 1).due(6, "zone", 2, 0, 0).due(14, "zone", 2, 0, 1).due(-1, "zone", 2, 0, 2).due(2, "go", 2, 2).due(-1, "zone", 2, 0, 0);
        x.due(0, "held", 2, 0, 0).due(0, "held", 2, 0, 1).due(0, "held", 2, 0, 2).due(0, "held", 2, 0, 3).due(0, "held", 2, 0, 4);
    }

    /** cell: "the ZONE (what 0), the NODE (1); NONE": as long as all are away. */
    private static void cellsOfNobody() {
        Drive x = new Drive("cells");
        x.text(1, "net 3");
        for (int r = 0; r < 3; r++) {
            x.due(-1, "cell", r, 0, 0, 0).due(-1, "cell", r, 31, 31, 0).due(-1, "cell", r, 0, 31, 1).due(-1, "cell", r, 31, 0, 1);
        }
        x.due(0, "join", 1, 1, 0, 0).due(1, "cell", 2, 31, 31, 0).due(0, "cell", 2, 31, 31, 1).due(0, "go", 0, 1).due(1, "cell", 0, 5, 5, 0);
        x.due(0, "cell", 0, 5, 5, 1).due(0, "go", 0, 2);
        for (int r = 0; r < 3; r++) {
            x.due(-1, "cell", r, 0, 0, 0).due(-1, "cell", r, 31, 31, 1);
        }
    }

    /** heir: "NONE without such a ZONE, or anybody". */
    private static void heirsOfNobody() {
        Drive x = new Drive("heirs");
        x.due(-1, "heir", 0, 0, 0).due(0, "join", 0, 0, 0, 0).due(-1, "heir", 0, 0, 0).due(1, "join", 0, 0, 0, 0);
        x.due(1, "heir", 0, 0, 0).due(0, "heir", 1, 0, 0).due(-1, "heir", 0, 0, 1).due(-1, "heir", 0, 0, -1).due(-1, "heir", 2, 0, 0);
        // Of a dead one as of one that is up; without another one that is up it is nobody.
        x.due(1, "go", 0, 1).due(1, "heir", 0, 0, 0).due(-1, "heir", 1, 0, 0).due(0, "go", 1, 1).due(-1, "heir", 0, 0, 0).due(-1, "heir", 1, 0, 0);
    }

    /** key: "VALUE (NONE, if it is not STORED)": 0 is a value; one whose copies are all lost is stored. */
    private static void valuesOfWhatIsNotStored() {
        Drive x = new Drive("values");
        x.due(-1, "key", 0, 0).due(0, "key", 0, 1).due(-1, "key", 99, 0).does("join", 0, 0, 0, 0).due(1, "put", 0, 0).due(0, "key", 0, 0);
        x.due(1, "key", 0, 1).due(1, "put", 99, 999).due(999, "key", 99, 0).due(0, "go", 0, 0).due(0, "key", 0, 0).due(0, "key", 0, 1);
        x.due(0, "cut", 0).due(-1, "key", 0, 0).due(0, "key", 0, 1).due(999, "key", 99, 0).text(1, "net 1").due(-1, "key", 99, 0);
    }

    /** point: "the NODE (2; NONE)". */
    private static void pointsOfNobody() {
        Drive x = new Drive("points");
        x.due(-1, "point", 0, 0, 2).due(13, "point", 0, 0, 0).due(12, "point", 0, 0, 1).does("join", 0, 0, 0, 0).due(0, "point", 0, 0, 2);
        x.due(0, "go", 0, 1).due(0, "point", 0, 0, 2).due(0, "go", 0, 2).due(-1, "point", 0, 0, 2).due(13, "point", 0, 0, 0);
    }

    private static void realityWithoutNodes() {
        Drive x = new Drive("reality without nodes");
        x.text(1, "net 3");
        for (int r = 0; r < 3; r++) {
            x.due(0, "reality", r, 0).due(-1, "reality", r, 1).due(-1, "reality", r, 2).due(-1, "reality", r, 3).due(0, "reality", r, 4);
            x.due(0, "reality", r, 5).due(0, "ways", r, 0).due(0, "ways", r, 1).due(0, "ways", r, 2).due(-1, "ways", r, 3);
            x.due(0, "held", 0, r, 4).due(0, "held", 9, r, 2);
        }
        x.due(0, "friends", 0).due(0, "risk", 0).due(0, "order", 0, 0);
    }

    /** EVEN is 0, the HUB is beside nobody, and there are no WAYS to another one. */
    private static void realityWithOneNode() {
        Drive x = new Drive("reality with one node");
        x.text(3, "net 2;join 3 3 at 9 9;put 0 1");
        for (int r = 0; r < 2; r++) {
            x.due(1, "reality", r, 0).due(0, "reality", r, 1).due(0, "reality", r, 2).due(-1, "reality", r, 3).due(0, "reality", r, 4);
            x.due(1, "reality", r, 5).due(0, "ways", r, 0).due(0, "ways", r, 1).due(0, "ways", r, 2).due(1, "ways", r, 3);
            x.due(1, "held", 0, r, 0).due(1024, "held", 0, r, 1).due(0, "held", 0, r, 2).due(1, "held", 0, r, 3).due(1, "held", 0, r, 4);
            x.due(0, "way", 0, r, 31, 0, -1).due(0, "way", 0, r, 31, 0, 0).due(-1, "way", 0, r, 31, 0, 1);
        }
        x.due(0, "friends", 0).due(1, "risk", 0).due(0, "seek", 0, 0, 0).due(1, "seek", 0, 0, 3).due(1, "seek", 0, 0, 4);
    }

    /** Zones there are; but none is up to be even, a hub, a way's begin or end, or to have a spot. */
    private static void realityWithTheDeadAlone() {
        Drive x = new Drive("reality with the dead alone");
        x.text(6, "net 2;join 1 1 at 0 0;join 2 2 at 20 0;put 0 1;crash 0;crash 1");
        for (int r = 0; r < 2; r++) {
            x.due(2, "reality", r, 0).due(-1, "reality", r, 1).due(-1, "reality", r, 2).due(-1, "reality", r, 3).due(0, "reality", r, 4);
            x.due(0, "reality", r, 5).due(0, "ways", r, 0).due(0, "ways", r, 1).due(0, "ways", r, 2).due(-1, "ways", r, 3);
            x.due(512, "held", 0, r, 1).due(2, "held", 0, r, 2).due(1, "held", 1, r, 2).due(0, "held", 0, r, 4).due(0, "held", 1, r, 4);
        }
        x.due(2, "friends", 0).due(0, "risk", 0).due(2, "count", 6).due(1, "count", 4).state("way", 0, 0, 0, 0, -1).state("seek", 1, 0, 0);
    }

    /** count: "NONE for another what". */
    private static void countsOfNoSuchWhat() {
        Drive x = new Drive("counts");
        x.due(-1, "count", -1).due(-1, "count", 8).due(-1, "count", Integer.MIN_VALUE).due(-1, "count", Integer.MAX_VALUE).due(0, "count", 7).due(1, "count", 0);
    }

    /** fault: "NONE without one, and ahead of any". */
    private static void faultWithoutOne() {
        Drive x = new Drive("fault");
        x.due(-1, "fault").does("mend").refused(9, "cut", 0).due(-1, "fault").tape("x").due(-1, "fault").argument("acts").due(0, "fault");
        x.refused(9, "cut", 0).due(0, "fault").tape("mend").due(0, "fault").due(1, "acts").due(-1, "fault").wrongText(4, "mend?").text(0, "").due(-1, "fault");
    }

    /** "REALITIES: 1 to 3 (1 at first), numbered from 0 on". */
    private static void realitiesAndTheirBound() {
        for (int realities = 0; realities <= 3; realities++) {
            Drive x = new Drive(realities + " realities");
            if (realities > 0) {
                x.text(1, "net " + realities);
            }
            int beyond = Math.max(1, realities);
            x.due(beyond, "count", 0).due(0, "join", 1, 1, 0, 0).due((1 << beyond) - 1, "put", 0, 1).due(0, "count", 6).due(1, "count", 5);
            x.due(1, "reality", beyond - 1, 0).due(1, "zone", 0, beyond - 1, 0).due(0, "cell", beyond - 1, 0, 0, 1);
            for (int bad : new int[] {-1, beyond, Integer.MAX_VALUE}) {
                x.index("held", 0, bad, 0).index("zone", 0, bad, 0).index("cell", bad, 0, 0, 0).index("heir", 0, bad, 0);
                x.index("point", 0, bad, 0).index("way", 0, bad, 0, 0, 0).index("reality", bad, 0).index("ways", bad, 0);
            }
            x.due(0, "go", 0, 1).due(beyond, "count", 6);
        }
        new Drive("none and four").wrongText(4, "net 0").wrongText(4, "net 4").due(1, "count", 0);
    }

    /** The last one gone, all is as without nodes but for keys, landmarks and what is remembered. */
    private static void emptyAgain() {
        Drive x = new Drive("empty again");
        x.text(7, "net 3;landmark 5 5;landmark 6 6;join 1 1 at 0 0;join 2 2 at 20 0;put 0 1;put 3 4").due(1, "go", 1, 0).due(0, "go", 0, 0);
        x.due(0, "count", 1).due(0, "count", 2).due(2, "count", 3).due(2, "count", 4).due(0, "count", 5).due(6, "count", 6).due(2, "count", 7);
        for (int r = 0; r < 3; r++) {
            x.due(0, "reality", r, 0).due(-1, "reality", r, 1).due(0, "reality", r, 5).due(-1, "cell", r, 3, 3, 0);
        }
        x.due(0, "mend").refused(8, "put", 0, 1).due(0, "tidy").due(4, "cut", 3).due(0, "join", 9, 9, 31, 31).due(1, "zone", 0, 2, 0);
        // What was lost stays lost, as no copy is held that it could be mended from.
        x.due(0, "mend").due(3, "count", 6).due(7, "put", 0, 2).due(0, "count", 6);
    }

    /** All 100 keys, in all three realities. */
    private static void fullOfKeys() {
        Drive x = new Drive("full of keys");
        x.text(2, "net 3;join 1 1 at 0 0");
        for (int key = 0; key < 100; key++) {
            x.due(7, "put", key, key * 10);
        }
        x.due(100, "count", 4).due(100, "count", 5).due(0, "count", 6).due(100, "risk", 0).due(100, "held", 0, 2, 3).due(100, "reality", 2, 5);
        x.due(8, "count", 7).due(0, "mend").due(1, "join", 2, 2, 20, 0);
        int first = Integer.parseInt(x.call("held", 0, 0, 3));
        x.due(100 - first, "held", 1, 0, 3).due(1, "go", 1, 1).due(first, "held", 0, 0, 3).due(0, "held", 1, 0, 3).due(0, "risk", 1);
        x.due(0, "go", 0, 1).due(300, "count", 6).due(0, "count", 5).due(100, "count", 4).due(0, "risk", 0);
        for (int key = 0; key < 100; key++) {
            x.due(key * 10, "cut", key);
        }
        x.due(0, "count", 4).due(0, "count", 6).refused(9, "cut", 0);
    }

    /** Ten nodes, three realities, three landmarks, eight acts, a full tape. */
    private static void fullOfAll() {
        Drive x = new Drive("full of all");
        x.text(4, "net 3;landmark 0 0;landmark 99 0;landmark 0 99");
        for (int node = 0; node < 10; node++) {
            x.due(node, "near", node * 11, 99 - node * 10);
        }
        for (int length = 20; length <= 400; length += 20) {
            x.due(length, "feed", 0, 0, 0, 0, 0);
        }
        x.due(-1, "feed", 0, 0, 0, 0, 0).refused(1, "near", 0, 0).due(8, "count", 7).due(1023, "count", 1).due(3, "count", 3).due(3, "count", 0);
        for (int r = 0; r < 3; r++) {
            int cells = 0;
            for (int node = 0; node < 10; node++) {
                cells += Integer.parseInt(x.call("held", node, r, 1));
            }
            x.due(10, "reality", r, 0);
            if (cells != 1024) {
                x.fail("the zones of reality " + r + " have " + cells + " cells");
            }
        }
        x.argument("acts").due(0, "fault").wrongText(0, "landmark 1 1").due(10, "why");
    }

    /** "An object is used for at most 512 calls": the last one is answered as any other. */
    private static void lastCall() {
        Drive x = new Drive("512 calls");
        x.due(0, "join", 1, 1, 0, 0);
        for (int i = 0; i < 508; i++) {
            x.due(1, "put", i % 100, i);
        }
        x.due(8, "count", 7).due(7, "undo").due(407, "key", 7, 0);
    }
}
