import java.util.function.Consumer;

/** TAKEN BACK with its 8 ACTS, THE IMAGE, and WHY, at their edges. */
public final class RememberTest {
    /** Acts by calls, each of which stands behind busy(). */
    private static final String[] NAMES = {"join", "near", "go", "go", "go", "put", "put", "cut", "mend"};
    private static final int[][] ROWS = {{8, 8, 3, 3}, {9, 9}, {2, 0}, {2, 1}, {1, 2}, {3, 5}, {50, 5}, {3}, {}};

    public static void main(String[] args) {
        eachActIsTakenBack();
        tidyIsTakenBack();
        theLastNodeIsTakenBack();
        noneIsRemembered();
        eightAreRemembered();
        theNinthForgetsTheFirst();
        actsThatChangeNothing();
        refusedOnesAreNotRemembered();
        rightTextsForget();
        wrongTextsDoNot();
        goingBackForgets();
        imagesForgetNothing();
        imageOfANewObject();
        imageIsOfAll();
        imageLeavesTheRest();
        imageIsKeptAnew();
        imageOutlastsAll();
        whyOfCalls();
        whyOfTexts();
        whyIsLeft();
        Drive.finish();
    }

    /** Node 0, 2 and 3 are up, 1 is dead; keys 0, 3 and 8; acts remembered: 3. */
    private static void busy(Drive x) {
        x.text(9, "net 2;landmark 5 5;landmark 90 5;join 1 1 at 0 0;join 2 2 at 20 0;join 3 3 at 20 20;put 0 1;put 3 4;put 8 9");
        x.does("image").due(2, "go", 1, 1).due(0, "mend").due(3, "join", 4, 4, 4, 20).due(3, "count", 7).tape("mend;put 9 9");
    }

    /** "all is as ahead of it", of each kind of act; WHY is that of the latest act, and this one was done. */
    private static void eachActIsTakenBack() {
        for (int i = 0; i < NAMES.length; i++) {
            String name = NAMES[i];
            int[] row = ROWS[i];
            Look.alike(name + " is taken back", RememberTest::busy, x -> {
                busy(x);
                x.does(name, row).due(3, "undo");
            });
            Drive x = new Drive(name + " changes WHY by itself, not by being taken back");
            busy(x);
            x.refused(9, "cut", 99).does(name, row).due(0, "why").refused(5, "go", 9, 2).due(3, "undo").due(5, "why");
        }
    }

    private static void scattered(Drive x) {
        x.text(4, "join 0 0 at 0 0;join 0 0 at 16 0;join 0 0 at 16 16;join 0 0 at 24 16").due(3, "go", 1, 0).due(2, "held", 2, 0, 0);
    }

    private static void tidyIsTakenBack() {
        Look.alike("tidy is taken back", RememberTest::scattered, x -> {
            scattered(x);
            x.due(1, "tidy").due(1, "undo");
        });
    }

    /** The last one's leaving, and the first one's coming. */
    private static void theLastNodeIsTakenBack() {
        Consumer<Drive> one = x -> x.text(4, "net 3;join 7 8 at 5 5;put 0 1;put 99 2").does("put", 3, 3);
        Look.alike("the last leaving is taken back", one, x -> {
            one.accept(x);
            x.due(0, "go", 0, 0).due(9, "count", 6).due(1, "undo");
        });
        Look.alike("the last notice is taken back", one.andThen(x -> x.due(0, "go", 0, 1)), x -> {
            one.accept(x);
            x.due(0, "go", 0, 1).due(0, "go", 0, 2).due(2, "undo");
        });
        Look.alike("the first coming is taken back", x -> x.text(1, "net 2"), x -> x.text(1, "net 2").due(0, "join", 1, 1, 1, 1).due(0, "undo"));
    }

    /** "IllegalStateException: there is none": ahead of any act, behind texts alone, and behind the last one. */
    private static void noneIsRemembered() {
        Look.same("undo without acts", x -> { }, x -> x.state("undo"));
        Look.same("undo behind a text", x -> x.text(2, "join 1 1 near;put 1 1").does("image"), x -> x.state("undo"));
        Look.same("undo behind the last one", x -> x.does("join", 1, 1, 0, 0).due(0, "undo").refused(9, "cut", 1), x -> x.state("undo").due(9, "why"));
    }

    private static void values(Drive x, int from, int to) {
        for (int value = from; value <= to; value++) {
            x.due(1, "put", 5, value);
        }
    }

    /** "8 are remembered". */
    private static void eightAreRemembered() {
        for (int acts = 1; acts <= 12; acts++) {
            Drive x = new Drive(acts + " acts");
            x.text(2, "join 0 0 near;put 5 0");
            values(x, 1, acts);
            int kept = Math.min(acts, 8);
            x.due(kept, "count", 7);
            for (int left = kept - 1; left >= 0; left--) {
                x.due(left, "undo").due(acts - kept + left, "key", 5, 0).due(left, "count", 7);
            }
            x.state("undo").due(acts - kept, "key", 5, 0).due(0, "count", 7);
        }
    }

    /** Also behind some that were taken back, and with more acts behind these, going round again and again. */
    private static void theNinthForgetsTheFirst() {
        Drive x = new Drive("the ninth");
        x.text(2, "join 0 0 near;put 5 0");
        values(x, 1, 8);
        x.due(7, "undo").due(6, "undo").due(6, "key", 5, 0);
        values(x, 107, 108);
        x.due(8, "count", 7).due(1, "put", 5, 109).due(8, "count", 7);
        int[] then = {108, 107, 6, 5, 4, 3, 2, 1};
        for (int i = 0; i < 8; i++) {
            x.due(7 - i, "undo").due(then[i], "key", 5, 0);
        }
        x.state("undo").due(1, "key", 5, 0);
        for (int round = 0; round < 5; round++) {
            values(x, 200, 210);
            x.due(8, "count", 7).due(7, "undo").due(6, "undo").due(5, "undo").due(207, "key", 5, 0);
        }
        values(x, 300, 302);
        for (int value : new int[] {301, 300, 207, 206, 205, 204, 203, 202}) {
            x.does("undo").due(value, "key", 5, 0);
        }
        x.state("undo");
    }

    /** An act that was done and changed nothing is one that was done. */
    private static void actsThatChangeNothing() {
        Drive x = new Drive("acts that change nothing");
        x.due(0, "mend").due(0, "tidy").due(2, "count", 7).text(1, "join 0 0 near").does("put", 5, 5).does("put", 5, 5).due(2, "count", 7);
        x.due(1, "undo").due(5, "key", 5, 0).due(0, "undo").due(-1, "key", 5, 0);
    }

    private static void refusedOnesAreNotRemembered() {
        Drive x = new Drive("refused ones");
        busy(x);
        x.refused(3, "join", 0, 0, 20, 3).refused(3, "near", 90, 15).refused(4, "go", 1, 0).refused(4, "go", 1, 1).refused(5, "go", 0, 2);
        x.refused(7, "tidy").refused(9, "cut", 50).argument("put", 1, 1000).index("cut", 100).element("go", 0, 3).due(3, "count", 7);
        x.due(2, "undo").due(5, "count", 1);
    }

    /** "A text that is right ..: none are remembered": also one without an act. */
    private static void rightTextsForget() {
        for (String text : new String[] {"mend", "", "  ", "put 7 7;cut 7"}) {
            Drive x = new Drive("[" + text + "] forgets");
            x.does("join", 1, 1, 0, 0).does("put", 3, 3).due(2, "count", 7).tape(text).does("acts").due(0, "count", 7).state("undo");
            x.due(3, "key", 3, 0).does("put", 3, 4).due(1, "count", 7).due(0, "undo").due(3, "key", 3, 0).state("undo");
        }
    }

    private static void wrongTextsDoNot() {
        for (String text : new String[] {"x", "mend;", "put 3 9;cut 4", "net 2;join 9 9 near;?", "leave 9"}) {
            Drive x = new Drive("[" + text + "] forgets nothing");
            x.does("join", 1, 1, 0, 0).does("put", 3, 3).does("put", 3, 4).tape(text).argument("acts").due(3, "count", 7);
            x.due(2, "undo").due(3, "key", 3, 0).due(1, "undo").due(-1, "key", 3, 0).due(1, "node", 0, 1).due(0, "undo").due(0, "count", 1);
        }
    }

    /** ".. going back: none are remembered"; where there is no image, nobody goes back. */
    private static void goingBackForgets() {
        Drive x = new Drive("going back");
        x.does("join", 1, 1, 0, 0).does("put", 3, 3).due(false, "back").due(2, "count", 7).does("image").due(2, "count", 7);
        x.does("put", 3, 4).due(3, "count", 7).due(true, "back").due(0, "count", 7).state("undo").due(3, "key", 3, 0);
        x.does("put", 3, 5).due(0, "undo").due(3, "key", 3, 0).due(true, "back").due(true, "back").due(0, "count", 7);
        Look.same("nothing happens without an image", y -> y.text(2, "join 1 1 near;put 3 3").does("put", 3, 4).tape("mend"), y -> y.due(false, "back"));
        Look.same("nothing happens without an image on a new object", y -> { }, y -> y.due(false, "back"));
    }

    private static void imagesForgetNothing() {
        Look.same("keeping an image", RememberTest::busy, x -> x.due("void", "image"), "image");
    }

    private static void imageOfANewObject() {
        Look.alike("image of a new object", x -> x.does("image"), x -> {
            x.does("image").text(5, "net 3;landmark 1 1;join 1 1 at 0 0;put 5 5;put 6 6").due(1, "join", 1, 1, 9, 9).due(true, "back");
        });
    }

    /** "THE IMAGE (one) of all": whatever came behind it, all is as it was kept; going back twice is going back once. */
    private static void imageIsOfAll() {
        String[] rows = {"count[7]", "undo 1", "undo 2", "undo 3", "undo 4", "undo 5", "undo 6", "undo 7", "undo 8", "undo 9"};
        Consumer<Drive> kept = x -> {
            busy(x);
            x.does("image");
        };
        String[] texts = {"net 1", "net 3;join 5 5 near;put 1 1", "landmark 7 7", "leave 0", "crash 3;notice 3", "cut 3;put 77 7", "notice 1;tidy;mend"};
        for (String text : texts) {
            Look.alike("back from [" + text + "]", kept.andThen(x -> x.due(true, "end", 0)), x -> {
                kept.accept(x);
                x.due(true, "end", 0).tape(text).does("acts").does("mend").due(true, "back").due(true, "back");
            }, rows);
        }
        for (int i = 0; i < NAMES.length; i++) {
            String name = NAMES[i];
            int[] row = ROWS[i];
            Look.alike("back from " + name, kept, x -> {
                kept.accept(x);
                x.does(name, row).due(true, "back");
            }, rows);
        }
    }

    /** "(but for the TAPE, fault(), WHY and THE IMAGE itself)". */
    private static void imageLeavesTheRest() {
        Drive x = new Drive("the rest");
        x.does("join", 1, 1, 0, 0).does("image").wrongText(7, "mend;  x").refused(9, "cut", 4).tape("put 1 2;mend");
        x.due(true, "back").due(7, "fault").due(9, "why").due(false, "end", 13).due(true, "end", 12).due(2, "acts").due(2, "key", 1, 0);
        x.due(-1, "fault").due(0, "why").due(true, "back").due(-1, "fault").due(0, "why").due(-1, "key", 1, 0);
        // Neither does keeping one change them.
        x.wrongText(0, "x").refused(9, "cut", 4).tape("mend").does("image").due(0, "fault").due(9, "why").due(1, "acts");
    }

    /** "THE IMAGE (one)": the latest that was kept; what comes behind does not change it. */
    private static void imageIsKeptAnew() {
        Drive x = new Drive("kept anew");
        x.text(2, "join 1 1 near;put 5 1").does("image").does("put", 5, 2).due(true, "back").due(1, "key", 5, 0);
        x.does("put", 5, 3).does("image").does("put", 5, 4).does("put", 6, 6).due(true, "back").due(3, "key", 5, 0).due(-1, "key", 6, 0);
        x.does("put", 5, 5).does("go", 0, 0).due(true, "back").due(3, "key", 5, 0).due(1, "count", 1).due(true, "back").due(3, "key", 5, 0);
    }

    /** Taking acts back, wrong texts and a new net leave the image. */
    private static void imageOutlastsAll() {
        Drive x = new Drive("outlasts");
        x.text(2, "join 1 1 near;put 5 1").does("put", 5, 2).does("image").due(0, "undo").due(1, "key", 5, 0).due(true, "back");
        x.due(2, "key", 5, 0).wrongText(11, "net 3;mend;x").due(true, "back").due(2, "key", 5, 0).text(1, "net 3").due(true, "back");
        x.due(1, "count", 0).due(2, "key", 5, 0).index("reality", 1, 0);
    }

    /** "of the latest ACT by a call .. the number by which it was refused; 0, if it was done". */
    private static void whyOfCalls() {
        for (int i = 0; i < NAMES.length; i++) {
            Drive x = new Drive("why of " + NAMES[i]);
            x.due(0, "why");
            busy(x);
            x.due(0, "why").refused(7, "tidy").does(NAMES[i], ROWS[i]).due(0, "why").refused(9, "cut", 60).refused(4, "go", 9, 0);
        }
        Drive x = new Drive("why of tidy");
        x.refused(9, "cut", 60).due(0, "tidy").due(0, "why");
    }

    /** "or of a text that was wrong by it"; "0 .. by a text of ACTS that was right". */
    private static void whyOfTexts() {
        Drive x = new Drive("why of texts");
        x.wrongText(0, "cut 1").due(9, "why").wrongText(5, "mend;leave 1").due(4, "why").text(1, "mend").due(0, "why");
        x.wrongText(5, "mend;notice 0;x").due(5, "why").refused(8, "put", 1, 1).text(14, "mend;mend;mend;mend;mend;mend;mend;mend;mend;mend;mend;mend;mend;mend");
        x.due(0, "why").refused(9, "cut", 1).wrongText(0, "put 1 1").due(8, "why").due(0, "mend").due(0, "why");
    }

    /** "(one that has no ACT, and one that is wrong otherwise, leave WHY)"; as does all that is no act. */
    private static void whyIsLeft() {
        Drive x = new Drive("why is left");
        busy(x);
        x.due(true, "end", 0).refused(7, "tidy").text(0, "").due(7, "why").text(0, "   ").due(7, "why").wrongText(5, "mend;").due(7, "why");
        x.wrongText(5, "mend;x").due(7, "why").wrongText(4, "net 4").due(7, "why").wrongText(70, "mend;".repeat(14) + "mend").due(7, "why");
        x.wrongText(5, "mend;;leave 9").due(7, "why").argument("join", 100, 0, 0, 0).argument("near", 0, 100).index("go", 10, 0);
        x.element("go", 0, 3).index("put", 100, 0).argument("put", 0, 1000).index("cut", -1).due(7, "why");
        x.does("image").due(true, "back").state("undo").state("way", 1, 0, 0, 0, 0).state("seek", 1, 0, 0).due(7, "why");
        x.due(20, "feed", 0, 0, 0, 0, 0).due(true, "end", 0).does("count", 0).does("ways", 0, 2).due(7, "why");
        x.does("put", 1, 1).due(0, "undo").due(0, "why");
    }
}
