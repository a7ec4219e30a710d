import java.util.function.Consumer;

/**
 * Each number by which an ACT is refused, 1 to 10, by a call and by a text: what just stands, what just doesn't, and
 * that behind a refusal nothing has changed but WHY, and fault() and the TAPE by a text.
 */
public final class RefusalsTest {
    public static void main(String[] args) {
        noNodeIsAway();
        depthTen();
        depthTenInAnotherReality();
        deadNodesZone();
        deadNodesZoneInOneReality();
        deadNodesZoneByY();
        allAreDead();
        orderOfJoinRefusals();
        notUp();
        notDead();
        noneOfTheOthersIsUp();
        noneIsUpToTake();
        orderOfGoRefusals();
        tidyWithTheDead();
        heldNowhere();
        notStored();
        threeLandmarks();
        neverRefused();
        Drive.finish();
    }

    private static void byCall(String title, Consumer<Drive> ahead, int why, String name, int... row) {
        Look.same(title, ahead, x -> x.refused(why, name, row), "why[]");
    }

    /** By a text: alone, and behind acts that are done and taken back with it. */
    private static void byText(String title, Consumer<Drive> ahead, int why, String act) {
        Look.same(title + ", text", ahead, x -> x.wrongText(0, act).due(why, "why"), "why[]", "fault[]");
        Look.same(title + ", text behind", ahead, x -> x.wrongText(7, "mend;  " + act + " ;mend").due(why, "why"), "why[]", "fault[]");
    }

    /** Nine nodes in two realities, the last one remembered, with an image and keys. */
    private static void nine(Drive x) {
        x.text(9, "net 2;landmark 9 9;join 1 1 at 0 0;join 2 2 at 30 9;join 3 3 at 9 30;join 4 4 at 30 30;join 5 5 at 8 8;put 3 4;put 0 7");
        x.does("image").due(5, "join", 6, 6, 20, 2).due(6, "join", 7, 7, 2, 20).due(7, "join", 8, 8, 22, 22).due(8, "join", 9, 9, 12, 12);
    }

    private static void ten(Drive x) {
        nine(x);
        x.due(9, "join", 10, 10, 25, 14);
    }

    /** "1: no NODE is AWAY". */
    private static void noNodeIsAway() {
        Drive x = new Drive("the tenth stands");
        nine(x);
        x.due(9, "join", 0, 0, 31, 31).due(0, "why").due(1023, "count", 1).refused(1, "join", 0, 0, 31, 31);
        Drive y = new Drive("the tenth stands near");
        nine(y);
        y.due(9, "near", 0, 0).due(0, "why").refused(1, "near", 0, 0).due(9, "go", 4, 0).due(4, "near", 0, 0).due(0, "why");
        byCall("1 join", RefusalsTest::ten, 1, "join", 3, 3, 31, 31);
        byCall("1 near", RefusalsTest::ten, 1, "near", 3, 3);
        byText("1 at", RefusalsTest::ten, 1, "join 3 3 at 31 31");
        byText("1 near", RefusalsTest::ten, 1, "join 3 3 near");
        // Who is dead is not away; who was noticed is.
        Drive z = new Drive("the dead are not away");
        ten(z);
        z.due(9, "go", 8, 1).refused(1, "join", 3, 3, 0, 0).due(9, "go", 8, 2).due(8, "join", 3, 3, 0, 0).due(0, "why");
    }

    /** Ten nodes at a corner, one of which came again: node 0 has 1024, 9 has 1025; node 1 is away. */
    private static void oneCell(Drive x) {
        x.text(14, "net 1" + ";join 0 0 at 0 0".repeat(10) + ";leave 0;join 5 5 at 0 0;leave 1");
        x.due(1024, "cell", 0, 0, 0, 0).due(1025, "cell", 0, 0, 1, 0).does("image").does("put", 3, 3);
    }

    /** "2: a ZONE of such a point is of DEPTH 10". */
    private static void depthTen() {
        Drive x = new Drive("depth 9 stands, depth 10 does not");
        x.text(12, "net 1" + ";join 0 0 at 0 0".repeat(10) + ";leave 0").due(512, "cell", 0, 0, 0, 0).due(9, "box", 512, 0);
        x.due(0, "join", 0, 0, 0, 1).due(0, "why").due(1025, "zone", 0, 0, 0).due(9, "go", 1, 0);
        x.refused(2, "join", 0, 0, 0, 1).refused(2, "join", 0, 0, 0, 0).due(1, "join", 0, 0, 1, 0).due(0, "why").due(1026, "zone", 1, 0, 0);
        byCall("2 join", RefusalsTest::oneCell, 2, "join", 3, 3, 0, 0);
        byCall("2 near", RefusalsTest::oneCell, 2, "near", 16, 16);
        byText("2 at", RefusalsTest::oneCell, 2, "join 3 3 at 0 1");
        byText("2 near", RefusalsTest::oneCell, 2, "join 0 0 near");
    }

    private static Consumer<Drive> deepIn(String realities, String... points) {
        StringBuilder text = new StringBuilder("net " + realities + ";join 0 0 at 0 0");
        for (String point : points) {
            text.append(";join 0 0 at ").append(point);
        }
        String last = points[points.length - 1];
        return x -> x.text(14, text + ";leave 0;join 0 0 at " + last + ";leave 1");
    }

    private static int depthAt(Drive x, int reality, int cellX, int cellY) {
        return Integer.parseInt(x.call("box", Integer.parseInt(x.call("cell", reality, cellX, cellY, 0)), 0));
    }

    /** Also if it is so in one of the other realities alone. */
    private static void depthTenInAnotherReality() {
        // Reality 1 has (26, 22), (27, 22), .. in one zone up to depth 8; in reality 0 these lie in four quarters.
        Consumer<Drive> second = deepIn("2", "15 15", "16 16", "15 16", "16 15", "15 15", "16 16", "15 16", "16 15", "15 15");
        // Reality 2 has (4, 28) and (7, 31) in one zone up to depth 6; both others part them before.
        Consumer<Drive> third = deepIn("3", "14 14", "17 17", "14 14", "17 17", "14 14", "17 17", "14 14", "14 14", "14 14");
        Drive x = new Drive("depth 10 in reality 1 alone");
        second.accept(x);
        if (depthAt(x, 0, 15, 15) >= 10 || depthAt(x, 1, 26, 22) != 10) {
            x.fail("it is not reality 1 alone");
        }
        Drive y = new Drive("depth 10 in reality 2 alone");
        third.accept(y);
        if (depthAt(y, 0, 14, 14) >= 10 || depthAt(y, 1, 25, 21) >= 10 || depthAt(y, 2, 4, 28) != 10) {
            y.fail("it is not reality 2 alone");
        }
        byCall("2 in reality 1", second, 2, "join", 0, 0, 15, 15);
        byCall("2 in reality 2", third, 2, "join", 0, 0, 14, 14);
        x.due(1, "join", 0, 0, 16, 15).due(0, "why");
        y.due(1, "join", 0, 0, 17, 17).due(0, "why");
    }

    /** Node 1 has 3 and is dead. */
    private static void half(Drive x) {
        x.text(4, "join 1 1 at 0 0;put 0 5;put 3 5;join 2 2 at 16 0").does("image").due(1, "go", 1, 1).due(1, "put", 0, 6);
    }

    /** "3: one is a DEAD NODE's". */
    private static void deadNodesZone() {
        byCall("3 join", RefusalsTest::half, 3, "join", 3, 3, 16, 0);
        byCall("3 join at the far end", RefusalsTest::half, 3, "join", 3, 3, 31, 31);
        byText("3 at", RefusalsTest::half, 3, "join 3 3 at 16 31");
        Drive x = new Drive("beside the dead one's it stands");
        half(x);
        x.due(2, "join", 3, 3, 15, 31).due(0, "why").refused(3, "join", 3, 3, 16, 31).due(2, "go", 1, 2).due(1, "join", 3, 3, 16, 31);
        // Two landmarks: who is nearer to the second one comes to x 16.
        Consumer<Drive> marks = y -> y.text(4, "landmark 0 0;landmark 99 99;join 1 1 at 0 0;join 2 2 at 16 0").due(1, "go", 1, 1);
        byCall("3 near", marks, 3, "near", 50, 50);
        byText("3 near", marks, 3, "join 99 9 near");
        Drive y = new Drive("near beside the dead one's it stands");
        marks.accept(y);
        y.due(2, "near", 49, 50).due(0, "why");
    }

    /** Also if it is so in one REALITY alone. */
    private static void deadNodesZoneInOneReality() {
        // Node 1 has 3, 3 and 2: dead are x 16 to 31 in reality 0, 5 to 20 in 1, 10 to 25 in 2.
        Consumer<Drive> one = x -> x.text(3, "net 3;join 1 1 at 0 0;join 2 2 at 20 0").due(1, "go", 1, 1);
        byCall("3 in reality 0", one, 3, "join", 3, 3, 26, 0);
        byCall("3 in reality 1", one, 3, "join", 3, 3, 5, 0);
        // Node 1 has 2, 3 and 3: dead are x 0 to 15 in reality 0, 5 to 20 in 1, 26 to 9 in 2.
        Consumer<Drive> other = x -> x.text(3, "net 3;join 1 1 at 20 0;join 2 2 at 5 0").due(1, "go", 1, 1);
        byCall("3 in reality 2", other, 3, "join", 3, 3, 26, 0);
        Drive x = new Drive("in none");
        one.accept(x);
        x.due(2, "join", 3, 3, 4, 0).due(0, "why");
        Drive y = new Drive("in none of the others");
        other.accept(y);
        y.due(2, "join", 3, 3, 25, 0).due(0, "why");
    }

    /** By y as by x: node 2 has the dead zones 4, 4 and 6. */
    private static void deadNodesZoneByY() {
        Consumer<Drive> quarter = x -> {
            x.text(4, "net 3;join 1 1 at 0 0;join 2 2 at 0 0;join 3 3 at 0 0").due(2, "go", 2, 1);
            x.due(4, "zone", 2, 0, 0).due(4, "zone", 2, 1, 0).due(6, "zone", 2, 2, 0);
        };
        byCall("3 by y in reality 0", quarter, 3, "join", 0, 0, 10, 15);
        byCall("3 by y in reality 1", quarter, 3, "join", 0, 0, 21, 8);
        byCall("3 by y, going round, in reality 1", quarter, 3, "join", 0, 0, 21, 25);
        byCall("3 by y, going round, in reality 2", quarter, 3, "join", 0, 0, 26, 18);
        for (int[] point : new int[][] {{10, 16}, {21, 9}, {21, 24}, {26, 17}}) {
            Drive x = new Drive("one further it stands");
            quarter.accept(x);
            x.due(3, "join", 0, 0, point[0], point[1]).due(0, "why");
        }
    }

    /** Without nodes that are up, but with dead ones, nobody can come; without any it has ZONE 1. */
    private static void allAreDead() {
        Consumer<Drive> dead = x -> x.text(3, "net 2;join 1 1 at 0 0;put 0 1").due(0, "go", 0, 1);
        byCall("3 with the dead alone", dead, 3, "join", 3, 3, 9, 9);
        byCall("3 near with the dead alone", dead, 3, "near", 3, 3);
        Drive x = new Drive("without any");
        dead.accept(x);
        x.due(0, "go", 0, 2).due(0, "join", 3, 3, 9, 9).due(1, "zone", 0, 0, 0).due(1, "zone", 0, 1, 0).due(0, "why");
    }

    /** Of several the lesser number: 1 ahead of 2 ahead of 3. */
    private static void orderOfJoinRefusals() {
        Drive x = new Drive("1 ahead of 2, 2 ahead of 3");
        oneCell(x);
        x.due(1, "join", 0, 0, 31, 31).due(0, "why").refused(1, "join", 0, 0, 0, 0).due(9, "go", 0, 1).refused(1, "join", 0, 0, 0, 0);
        Drive y = new Drive("2 ahead of 3 in one zone");
        oneCell(y);
        y.due(8, "go", 0, 1).refused(2, "join", 0, 0, 0, 0).refused(2, "join", 0, 0, 0, 1);
        // Node 9 has the zone of depth 10 in one reality, the dead node 7 that of the other.
        Drive z = new Drive("2 in reality 1 ahead of 3 in reality 0");
        deepIn("2", "15 15", "16 16", "15 16", "16 15", "15 15", "16 16", "15 16", "16 15", "15 15").accept(z);
        z.due(7, "cell", 0, 15, 16, 1).due(9, "cell", 1, 26, 23, 1).due(8, "go", 7, 1).refused(2, "join", 0, 0, 15, 16);
        Drive w = new Drive("2 in reality 0 ahead of 3 in reality 1");
        deepIn("2", "4 8", "5 9", "4 9", "5 8", "4 8", "5 9", "4 9", "5 8", "4 8").accept(w);
        w.due(9, "cell", 0, 4, 9, 1).due(7, "cell", 1, 15, 16, 1).due(8, "go", 7, 1).refused(2, "join", 0, 0, 4, 9);
    }

    /** Node 0 is up, 1 is dead, 2 is up, the others are away. */
    private static void three(Drive x) {
        x.text(6, "net 2;join 1 1 at 0 0;join 2 2 at 16 0;join 3 3 at 16 16;put 0 9;put 3 8").does("image");
        x.due(3, "put", 8, 1).due(2, "go", 1, 1).due(0, "mend");
    }

    /** "4: it is not UP" of LEAVE and CRASH: of a dead one, and of one that is away. */
    private static void notUp() {
        for (int how = 0; how < 2; how++) {
            String word = how == 0 ? "leave " : "crash ";
            for (int node : new int[] {1, 3, 9}) {
                byCall("4 " + word + node, RefusalsTest::three, 4, "go", node, how);
                byText("4 " + word + node, RefusalsTest::three, 4, word + node);
            }
            Drive x = new Drive("of one that is up " + word + "stands");
            three(x);
            x.due(1, "go", 2, how).due(0, "why").refused(4, "go", 2, how);
            Drive y = new Drive("in a text " + word + "stands");
            three(y);
            y.text(1, word + 2).due(0, "why").wrongText(0, word + 2).due(4, "why");
        }
        byCall("4 of nobody", x -> { }, 4, "go", 0, 0);
        byCall("4 of nobody's crash", x -> { }, 4, "go", 9, 1);
    }

    /** "5: it is not DEAD" of NOTICE: of one that is up, and of one that is away. */
    private static void notDead() {
        for (int node : new int[] {0, 2, 3, 9}) {
            byCall("5 notice " + node, RefusalsTest::three, 5, "go", node, 2);
            byText("5 notice " + node, RefusalsTest::three, 5, "notice " + node);
        }
        Drive x = new Drive("of a dead one it stands");
        three(x);
        x.due(2, "go", 1, 2).due(0, "why").refused(5, "go", 1, 2);
        Drive y = new Drive("of a dead one it stands in a text");
        three(y);
        y.text(1, "notice 1").due(0, "why").wrongText(0, "notice 1").due(5, "why");
    }

    /** Of three nodes 0 alone is up. */
    private static void oneUp(Drive x) {
        x.text(6, "net 2;join 1 1 at 0 0;join 2 2 at 16 0;join 3 3 at 16 16;put 0 9;put 3 8").does("image");
        x.due(2, "go", 1, 1).due(1, "go", 2, 1);
    }

    /** LEAVE, "6: others are not AWAY, but none of these is UP". */
    private static void noneOfTheOthersIsUp() {
        byCall("6 leave", RefusalsTest::oneUp, 6, "go", 0, 0);
        byText("6 leave", RefusalsTest::oneUp, 6, "leave 0");
        Drive x = new Drive("one dead one is enough");
        oneUp(x);
        x.due(1, "go", 1, 2).refused(6, "go", 0, 0).due(1, "go", 2, 2).due(0, "why").due(0, "go", 0, 0).due(0, "why");
        Drive y = new Drive("with another one up it stands");
        three(y);
        y.due(1, "go", 0, 0).due(0, "why").due(4, "count", 1).refused(6, "go", 2, 0);
    }

    /** NOTICE, "6: none is UP, but some other one is DEAD". */
    private static void noneIsUpToTake() {
        Consumer<Drive> dead = x -> {
            oneUp(x);
            x.due(0, "go", 0, 1);
        };
        for (int node = 0; node < 3; node++) {
            byCall("6 notice " + node, dead, 6, "go", node, 2);
            byText("6 notice " + node, dead, 6, "notice " + node);
        }
        Drive x = new Drive("with one up it stands");
        oneUp(x);
        x.due(1, "go", 1, 2).due(0, "why").due(1, "go", 2, 2).due(0, "go", 0, 1).due(0, "go", 0, 2).due(0, "why").due(0, "reality", 0, 0);
    }

    /** 4 goes ahead of 6, and 5 of 6. */
    private static void orderOfGoRefusals() {
        byCall("4 ahead of 6", RefusalsTest::oneUp, 4, "go", 1, 0);
        byCall("4 of who is away ahead of 6", RefusalsTest::oneUp, 4, "go", 5, 0);
        Consumer<Drive> dead = x -> x.text(4, "join 1 1 at 0 0;join 2 2 at 16 0;crash 0;crash 1");
        byCall("4 of the dead ahead of 6", dead, 4, "go", 0, 0);
        byCall("5 of who is away ahead of 6", dead, 5, "go", 2, 2);
        // CRASH is never refused by 6.
        Drive x = new Drive("the last one may die");
        oneUp(x);
        x.due(0, "go", 0, 1).due(0, "why");
    }

    /** "7: a NODE is DEAD". */
    private static void tidyWithTheDead() {
        Consumer<Drive> stray = x -> {
            x.text(4, "join 1 1 at 0 0;join 2 2 at 16 0;join 3 3 at 16 16;join 4 4 at 24 16").due(3, "go", 1, 0).does("image");
            x.due(2, "held", 2, 0, 0).due(2, "go", 0, 1);
        };
        byCall("7", stray, 7, "tidy");
        byText("7", stray, 7, "tidy");
        byCall("7 with nothing to tidy", x -> x.text(2, "join 1 1 at 0 0;crash 0"), 7, "tidy");
        Drive x = new Drive("without the dead it stands");
        stray.accept(x);
        x.due(2, "go", 0, 2).due(2, "tidy").due(0, "why").due(2, "reality", 0, 0);
        Drive y = new Drive("nobody is dead in an empty net");
        y.due(0, "tidy").due(0, "why").text(1, "tidy").due(0, "why");
    }

    /** "8: nowhere it would be HELD". */
    private static void heldNowhere() {
        byCall("8 without nodes", x -> { }, 8, "put", 0, 0);
        byText("8 without nodes", x -> { }, 8, "put 99 999");
        // Node 1 has 3, 3 and 2: of key 8 all three points, of key 3 those of reality 0 and 2.
        Consumer<Drive> half = x -> {
            x.text(5, "net 3;join 0 0 at 0 0;join 1 1 at 20 0;put 8 77;put 3 5").does("image").due(1, "go", 1, 1);
        };
        byCall("8 of the dead", half, 8, "put", 8, 78);
        byText("8 of the dead", half, 8, "put 8 78");
        Drive x = new Drive("held in one of three it stands");
        half.accept(x);
        x.due(2, "put", 3, 6).due(0, "why").due(2, "key", 3, 1).due(6, "key", 3, 0).due(77, "key", 8, 0).due(0, "key", 8, 1);
        x.due(1, "go", 1, 2).due(7, "put", 8, 78).due(0, "why");
        byCall("8 with all dead", y -> y.text(3, "join 0 0 at 0 0;put 1 1;crash 0"), 8, "put", 1, 2);
    }

    /** "9: it is not" (STORED). */
    private static void notStored() {
        Consumer<Drive> one = x -> x.text(3, "join 0 0 at 0 0;put 5 0;put 99 1").does("image").due(1, "cut", 99);
        byCall("9 never stored", one, 9, "cut", 0);
        byCall("9 cut already", one, 9, "cut", 99);
        byText("9", one, 9, "cut 4");
        byCall("9 without nodes", x -> { }, 9, "cut", 0);
        Drive x = new Drive("what is stored may be cut, also with value 0 and with no copy held");
        one.accept(x);
        x.due(0, "go", 0, 1).due(0, "key", 5, 1).due(0, "cut", 5).due(0, "why").refused(9, "cut", 5);
    }

    /** "10: there are 3". */
    private static void threeLandmarks() {
        Consumer<Drive> three = x -> x.text(4, "landmark 0 0;landmark 99 99;landmark 0 99;join 0 0 near").does("image").does("mend");
        byText("10", three, 10, "landmark 5 5");
        Drive x = new Drive("the third one stands");
        x.text(2, "landmark 0 0;landmark 99 99").text(1, "landmark 0 99").due(0, "why").due(3, "count", 3);
        x.wrongText(0, "landmark 0 99").due(10, "why").due(3, "count", 3).text(2, "net 1;landmark 1 1").due(1, "count", 3).due(0, "why");
        x.wrongText(45, "net 1;landmark 1 1;landmark 2 2;landmark 3 3;landmark 4 4").due(10, "why").due(1, "count", 3);
    }

    /** NET and MEND are never refused. */
    private static void neverRefused() {
        for (int realities = 1; realities <= 3; realities++) {
            Drive x = new Drive("net " + realities);
            ten(x);
            x.due(9, "go", 0, 1).text(1, "net " + realities).due(0, "why").due(realities, "count", 0);
        }
        Drive x = new Drive("mend");
        x.due(0, "mend").due(0, "why").text(1, "mend").text(2, "join 0 0 near;crash 0").due(0, "mend").due(0, "why");
    }
}
