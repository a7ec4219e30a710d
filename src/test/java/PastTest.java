/** Promises 14 (undo), 30 (image) and 31 (back). */
public final class PastTest {
    public static void main(String[] args) {
        eachActIsTakenBack();
        eightAreRemembered();
        refusedOnesAreNot();
        textsForget();
        images();
        whatStaysOutOfTheImage();
        Drive.finish();
    }

    private static void eachActIsTakenBack() {
        Drive x = new Drive("each act");
        x.state("undo").text(3, "net 2;join 1 1 at 0 0;join 2 2 at 20 0").state("undo");
        x.due(2, "join", 3, 3, 20, 20).due(1, "count", 7).due(0, "undo").due(3, "count", 1).due(3, "zone", 1, 0, 0).due(-1, "node", 2, 1);
        x.due(2, "near", 4, 4).due(0, "undo").due(3, "count", 1).due(2, "zone", 0, 0, 0).due(2, "zone", 0, 1, 0);
        x.due(3, "put", 3, 4).due(0, "undo").due(-1, "key", 3, 0).due(0, "key", 3, 1).due(3, "put", 3, 4);
        x.due(3, "put", 3, 9).due(1, "undo").due(4, "key", 3, 0).due(4, "cut", 3).due(1, "undo").due(3, "key", 3, 1).due(4, "key", 3, 0);
        x.due(1, "go", 1, 1).due(2, "key", 3, 1).due(1, "undo").due(1, "node", 1, 0).due(3, "key", 3, 1);
        x.due(1, "go", 1, 1).due(1, "go", 1, 2).due(2, "undo").due(2, "node", 1, 0).due(2, "node", 1, 1).due(3, "zone", 1, 0, 0);
        x.due(1, "go", 1, 2).due(1, "mend").due(3, "key", 3, 1).due(3, "undo").due(2, "key", 3, 1).due(2, "undo").due(1, "undo");
        x.due(1, "go", 1, 0).due(1, "zone", 0, 0, 0).due(1, "undo").due(2, "zone", 0, 0, 0).due(2, "node", 1, 2).due(2, "count", 0);
        Drive y = new Drive("tidy is taken back");
        y.text(4, "join 0 0 at 0 0;join 0 0 at 16 0;join 0 0 at 16 16;join 0 0 at 24 16").due(3, "go", 1, 0).due(1, "tidy");
        y.due(1, "undo").due(2, "held", 2, 0, 0).due(14, "zone", 2, 0, 1).due(15, "zone", 3, 0, 0).due(0, "undo").due(4, "reality", 0, 0);
        y.due(6, "zone", 1, 0, 0).state("undo").due(15, "count", 1);
    }

    private static void eightAreRemembered() {
        Drive x = new Drive("eight");
        x.does("join", 0, 0, 0, 0);
        for (int value = 1; value <= 20; value++) {
            x.due(1, "put", 5, value).due(Math.min(8, value + 1), "count", 7);
        }
        for (int left = 7; left >= 0; left--) {
            x.due(left, "undo").due(12 + left, "key", 5, 0).due(left, "count", 7);
        }
        x.state("undo").due(12, "key", 5, 0).due(1, "put", 5, 50).due(1, "count", 7).due(0, "undo").due(12, "key", 5, 0);
        // Acts come behind what was not taken back.
        x.due(1, "put", 5, 60).due(1, "put", 5, 61).due(1, "undo").due(1, "put", 5, 62).due(1, "undo").due(60, "key", 5, 0);
        x.due(0, "undo").due(12, "key", 5, 0).state("undo").due(0, "why");
    }

    private static void refusedOnesAreNot() {
        Drive x = new Drive("refused ones");
        x.refused(9, "cut", 1).refused(4, "go", 0, 0).refused(8, "put", 0, 0).due(0, "count", 7).state("undo");
        x.does("join", 1, 1, 0, 0).argument("join", 1, 1, 0, 32).index("put", 100, 0).refused(5, "go", 0, 2).due(1, "count", 7);
        x.due(0, "undo").due(0, "count", 1).due(0, "tidy").due(0, "mend").due(2, "count", 7).due(1, "undo").due(0, "undo");
    }

    private static void textsForget() {
        Drive x = new Drive("texts");
        x.does("join", 1, 1, 0, 0).does("join", 1, 1, 20, 0).due(2, "count", 7).wrongText(5, "mend;x").due(2, "count", 7);
        x.wrongText(0, "leave 9").due(2, "count", 7).due(1, "undo").due(1, "count", 1).text(1, "mend").due(0, "count", 7);
        x.state("undo").due(1, "count", 1).does("mend").due(1, "count", 7).text(0, " ").due(0, "count", 7).state("undo");
    }

    private static void images() {
        Drive x = new Drive("images");
        x.due(false, "back").text(4, "net 2;landmark 5 5;join 1 1 at 0 0;join 2 2 at 20 0").does("put", 3, 4);
        x.due("void", "image").due(1, "count", 7).does("put", 3, 5).due(1, "go", 1, 1).due(2, "join", 3, 3, 0, 31);
        x.text(2, "landmark 6 6;cut 3").due(2, "count", 3).due(true, "back").due(0, "count", 7).state("undo");
        x.due(2, "count", 0).due(3, "count", 1).due(0, "count", 2).due(1, "count", 3).due(1, "count", 4).due(4, "key", 3, 0);
        x.due(3, "key", 3, 1).due(2, "node", 1, 1).due(-1, "node", 2, 1).due(2, "zone", 0, 0, 0).due(3, "zone", 1, 0, 0);
        x.due(2, "reality", 1, 0).due(4, "cut", 3).due(1, "count", 7).due(true, "back").due(4, "key", 3, 0).due(0, "count", 7);
        // The image is the latest one that was kept, also of what has gone back, and stays as it was when kept.
        x.does("put", 3, 8).does("image").does("put", 3, 9).due(true, "back").due(8, "key", 3, 0).does("put", 3, 7);
        x.text(1, "net 3").due(true, "back").due(2, "count", 0).due(8, "key", 3, 0).due(2, "reality", 0, 0).index("reality", 2, 0);
    }

    private static void whatStaysOutOfTheImage() {
        Drive x = new Drive("out of the image");
        x.does("join", 1, 1, 0, 0).does("image").wrongText(4, "mend,").refused(9, "cut", 0).due(20, "feed", 0, 0, 0, 0, 0);
        x.due(true, "back").due(4, "fault").due(9, "why").due(true, "end", 20).due(0, "count", 7).due(true, "end", 0);
        x.does("join", 1, 1, 9, 9).due(0, "undo").due(true, "back").due(1, "count", 1).text(1, "net 3").due(true, "back");
        x.due(1, "count", 0).due(1, "count", 1);
    }
}
