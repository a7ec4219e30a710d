/** Promises 2 (feed) and 3 (end). */
public final class TapeTest {
    private static final int TIDY = 0x74696479;
    private static final int MEND = 0x6d656e64;
    private static final int BLANKS = 0x20202020;

    public static void main(String[] args) {
        fullTape();
        highestByteFirst();
        fiveNumbersInOrder();
        ends();
        usedUp();
        Drive.finish();
    }

    private static void fullTape() {
        Drive x = new Drive("full tape");
        for (int length = 20; length <= 400; length += 20) {
            x.due(length, "feed", BLANKS, BLANKS, BLANKS, BLANKS, BLANKS);
        }
        x.due(-1, "feed", 0, 0, 0, 0, 0).due(false, "end", 401).due(true, "end", 400);
        x.due(true, "end", 381).due(-1, "feed", 0, 0, 0, 0, 0).due(false, "end", 382);
        x.due(true, "end", 380).due(400, "feed", BLANKS, BLANKS, BLANKS, BLANKS, TIDY);
        x.due(1, "acts").due(-1, "fault");
        for (int length = 20; length <= 400; length += 20) {
            x.due(length, "feed", BLANKS, BLANKS, BLANKS, BLANKS, length < 400 ? BLANKS : 0x2020203f);
        }
        x.argument("acts").due(399, "fault");
    }

    private static void highestByteFirst() {
        Drive x = new Drive("highest byte first");
        x.due(20, "feed", TIDY, BLANKS, BLANKS, BLANKS, BLANKS).due(1, "acts");
        x.due(20, "feed", 0x79646974, BLANKS, BLANKS, BLANKS, BLANKS).argument("acts").due(0, "fault");
        x.due(20, "feed", TIDY, 0x20e92020, BLANKS, BLANKS, BLANKS).argument("acts").due(5, "fault");
        x.due(20, "feed", -1, BLANKS, BLANKS, BLANKS, BLANKS).argument("acts").due(0, "fault");
        x.due(20, "feed", 0x20202080, BLANKS, BLANKS, BLANKS, BLANKS).argument("acts").due(3, "fault");
    }

    private static void fiveNumbersInOrder() {
        Drive x = new Drive("five numbers");
        x.due(20, "feed", MEND, 0x3b202020, TIDY, 0x3b202020, MEND).due(3, "acts");
        for (int place = 0; place < 5; place++) {
            int[] row = {BLANKS, BLANKS, BLANKS, BLANKS, BLANKS};
            row[place] = 0x20402020;
            x.due(20, "feed", row).argument("acts").due(4 * place + 1, "fault");
        }
    }

    private static void ends() {
        Drive x = new Drive("end");
        x.due(true, "end", 0).due(false, "end", 1).due(false, "end", -1).due(false, "end", Integer.MIN_VALUE);
        x.due(20, "feed", TIDY, TIDY, TIDY, TIDY, TIDY);
        x.due(false, "end", 21).due(false, "end", -1).due(true, "end", 20).due(true, "end", 5).due(false, "end", 6);
        x.due(true, "end", 4).due(24, "feed", 0x3b6d656e, 0x64202020, BLANKS, BLANKS, BLANKS).due(2, "acts");
    }

    private static void usedUp() {
        Drive x = new Drive("used up");
        x.tape("tidy").due(1, "acts").due(false, "end", 1).due(0, "acts");
        x.tape("nothing").argument("acts").due(false, "end", 1).due(0, "acts");
        x.tape("leave 0").argument("acts").due(false, "end", 1).due(20, "feed", 0, 0, 0, 0, 0);
    }
}
