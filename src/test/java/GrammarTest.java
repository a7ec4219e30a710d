/** "ACTS are told in texts": each form, each number's bounds, each byte, blanks, the first wrong byte, 14 and 15. */
public final class GrammarTest {
    /** Ten nodes, 9 of them dead or up as the act needs it, and keys 0 and 99. */
    private static final String TEN = "join 0 0 at 0 0;join 0 0 at 31 0;join 0 0 at 0 31;join 0 0 at 31 31;join 0 0 at 8 8;"
        + "join 0 0 at 24 8;join 0 0 at 8 24;join 0 0 at 24 24;join 0 0 at 4 4;join 0 0 at 28 28;put 0 0;put 99 99";

    /** Each form of an act, behind what must be done for it to stand. */
    private static final String[][] FORMS = {
        {"", "net 1"}, {"", "landmark 1 2"}, {"", "join 1 2 at 3 4"}, {"", "join 1 2 near"}, {TEN, "leave 0"}, {TEN, "crash 9"},
        {TEN + ";crash 9", "notice 9"}, {"", "tidy"}, {TEN, "put 1 2"}, {TEN, "cut 99"}, {"", "mend"}
    };

    public static void main(String[] args) {
        for (String[] form : FORMS) {
            for (String before : new String[] {"", "mend ;  "}) {
                blanks(form[0], before, form[1]);
                moreMustCome(form[0], before, form[1]);
                wrongThings(form[0], before, form[1]);
                oneThingMore(form[0], before, form[1]);
            }
        }
        bounds();
        everyByteBehindAWord();
        everyByteAhead();
        everyByteBetweenWordAndNumber();
        everyByteBehindANumber();
        zeroToFourteenActs();
        fifteenActs();
        fourHundredBytes();
        nothingStays();
        noAct();
        oneBehindAnother();
        Drive.finish();
    }

    private static Drive behind(String setUp, String title) {
        Drive x = new Drive(title);
        x.tape(setUp).does("acts").due(-1, "fault");
        return x;
    }

    private static void right(String setUp, int acts, String text) {
        behind(setUp, "[" + text + "]").text(acts, text).due(0, "why");
    }

    private static void wrong(String setUp, int fault, String text) {
        behind(setUp, "[" + text + "]").wrongText(fault, text).due(0, "why").due(false, "end", 1);
    }

    private static boolean isNumber(String thing) {
        return thing.charAt(0) <= '9';
    }

    /** "between all there may be blanks (32), also ahead and behind": none, where two numbers do not meet, or many. */
    private static void blanks(String setUp, String before, String form) {
        String[] things = form.split(" ");
        StringBuilder close = new StringBuilder();
        for (int i = 0; i < things.length; i++) {
            close.append(i > 0 && isNumber(things[i]) && isNumber(things[i - 1]) ? " " : "").append(things[i]);
        }
        int acts = before.isEmpty() ? 1 : 2;
        right(setUp, acts, before + form);
        right(setUp, acts, before.replace(" ", "") + close);
        right(setUp, acts, before + "    " + form.replace(" ", "     ") + "   ");
        right(setUp, acts + 1, before + form + ";mend");
        right(setUp, acts + 1, before + form + "   ;   mend");
    }

    /** "or the text's length, if more must come". */
    private static void moreMustCome(String setUp, String before, String form) {
        for (int cut = form.indexOf(' '); cut >= 0; cut = form.indexOf(' ', cut + 1)) {
            String part = before + form.substring(0, cut);
            wrong(setUp, part.length(), part);
            wrong(setUp, part.length() + 3, part + "   ");
            // A thing that cannot stand there comes ahead of what is missing.
            wrong(setUp, part.length(), part + ";");
            wrong(setUp, part.length() + 1, part + " ;mend");
        }
        wrong(setUp, (before + form).length() + 1, before + form + ";");
        wrong(setUp, (before + form).length() + 4, before + form + " ;  ");
        wrong(setUp, (before + form).length() + 2, before + form + "; ;mend");
    }

    /** "the begin of the first thing that cannot stand there (a number of more digits ..; a word that is none ..)". */
    private static void wrongThings(String setUp, String before, String form) {
        String[] things = form.split(" ");
        int begin = before.length();
        for (int i = 0; i < things.length; i++) {
            String[] others = isNumber(things[i])
                ? new String[] {"x", "at", "mend", "?", "-1", "+1", ".1", "0000", "1000", "999999999999", ";", "A"}
                : new String[] {"7", "x", "zz", "?", ";", things[i] + "x", "x" + things[i], things[i] + things[i], things[i].substring(1),
                    things[i].substring(0, 1).toUpperCase() + things[i].substring(1), "-" + things[i]};
            for (String other : others) {
                String[] changed = things.clone();
                changed[i] = other;
                wrong(setUp, begin, before + String.join(" ", changed));
            }
            begin += things[i].length() + 1;
        }
    }

    /** What stands behind a whole act without a semicolon. */
    private static void oneThingMore(String setUp, String before, String form) {
        for (String more : new String[] {"5", "x", "mend", "net 1", "?", ",mend", "at 1 1", "near"}) {
            wrong(setUp, (before + form).length() + 1, before + form + " " + more);
        }
    }

    /** Ahead of the number, behind it, its bounds; and a state in which both ends stand. */
    private static void bounds() {
        String[][] rows = {
            {"", "net ", "", "1", "3"}, {"", "landmark ", " 5", "0", "99"}, {"", "landmark 5 ", "", "0", "99"},
            {"", "join ", " 5 at 1 1", "0", "99"}, {"", "join 5 ", " at 1 1", "0", "99"}, {"", "join 5 5 at ", " 1", "0", "31"},
            {"", "join 5 5 at 1 ", "", "0", "31"}, {"", "join ", " 5 near", "0", "99"}, {"", "join 5 ", " near", "0", "99"},
            {TEN, "leave ", "", "0", "9"}, {TEN, "crash ", "", "0", "9"}, {TEN + ";crash 0;crash 9", "notice ", "", "0", "9"},
            {TEN, "put ", " 5", "0", "99"}, {TEN, "put 5 ", "", "0", "999"}, {TEN, "cut ", "", "0", "99"}
        };
        for (String[] row : rows) {
            int most = Integer.parseInt(row[4]);
            right(row[0], 1, row[1] + row[3] + row[2]);
            right(row[0], 1, row[1] + most + row[2]);
            wrong(row[0], row[1].length(), row[1] + (most + 1) + row[2]);
            if (!row[3].equals("0")) {
                wrong(row[0], row[1].length(), row[1] + (Integer.parseInt(row[3]) - 1) + row[2]);
            }
            // One to three digits: 0s ahead are digits, too.
            String three = ("00" + most).substring(("00" + most).length() - 3);
            right(row[0], 1, row[1] + three + row[2]);
            wrong(row[0], row[1].length(), row[1] + "0" + three + row[2]);
            wrong(row[0], row[1].length(), row[1] + "4294967296" + row[2]);
        }
        // A node within the bounds that is not so is refused at the first word; one beyond them is wrong at its number.
        behind("", "refused or wrong").wrongText(1, " leave 9").due(4, "why").wrongText(7, " leave 10").due(4, "why");
        behind("", "what the numbers do").text(1, "join 99 0 at 31 31").due(99, "node", 0, 1).due(0, "node", 0, 2)
            .text(2, "put 99 999; put 0 0").due(999, "key", 99, 0).due(0, "key", 0, 0).due(2, "count", 4);
    }

    private static String put(String text, int one) {
        return text.replace('_', (char) one);
    }

    private static boolean isLetter(int one) {
        return one >= 'a' && one <= 'z';
    }

    private static boolean isDigit(int one) {
        return one >= '0' && one <= '9';
    }

    /** "words as long as a to z go on": the byte just ahead of a and the one just behind z end it. */
    private static void everyByteBehindAWord() {
        for (int one = 0; one < 256; one++) {
            if (one == ' ') {
                right("", 1, put("mend_", one));
            } else {
                wrong("", one == ';' ? 5 : isLetter(one) ? 0 : 4, put("mend_", one));
            }
        }
    }

    private static void everyByteAhead() {
        for (int one = 0; one < 256; one++) {
            if (one == ' ') {
                right("", 1, put("_mend", one));
            } else {
                wrong("", 0, put("_mend", one));
            }
        }
    }

    private static void everyByteBetweenWordAndNumber() {
        for (int one = 0; one < 256; one++) {
            if (one == ' ' || one == '0') {
                right("", 1, put("net_1", one));
            } else {
                wrong("", isLetter(one) ? 0 : 3, put("net_1", one));
            }
        }
    }

    private static void everyByteBehindANumber() {
        for (int one = 0; one < 256; one++) {
            if (one == ' ') {
                right("", 1, put("net 1_", one));
            } else {
                wrong("", one == ';' ? 6 : isDigit(one) ? 4 : 5, put("net 1_", one));
            }
        }
    }

    private static String many(int acts, String act) {
        StringBuilder text = new StringBuilder();
        for (int i = 0; i < acts; i++) {
            text.append(i == 0 ? "" : ";").append(act);
        }
        return text.toString();
    }

    /** "at most 14": as many as there are, they are answered. */
    private static void zeroToFourteenActs() {
        for (int acts = 0; acts <= 14; acts++) {
            right("", acts, many(acts, "mend"));
            right("", acts, many(acts, " tidy  "));
            behind("join 0 0 near", "as many puts").text(acts, many(acts, "put 1 2")).due(acts > 0 ? 1 : 0, "count", 4);
        }
    }

    /** "of an ACT too many .. the first word". */
    private static void fifteenActs() {
        String full = many(14, "mend");
        int length = full.length();
        wrong("", length + 1, full + ";mend");
        wrong("", length + 4, full + " ;  mend ; mend");
        // Whatever stands there in place of an act begins at the same byte, also what would be refused.
        for (String thing : new String[] {"net 1", "leave 0", "cut 0", "net 9", "net", "x", "7", "?", ";", "landmark 100 1"}) {
            wrong("", length + 2, full + "; " + thing);
        }
        // Behind the semicolon more must come; without one there is the end, or a thing that cannot stand there.
        wrong("", length + 1, full + ";");
        wrong("", length + 2, full + "; ");
        right("", 14, full + " ");
        wrong("", length + 1, full + " mend");
        Look.same("fifteen acts", x -> x.text(2, "net 2;join 1 1 at 0 0").does("put", 0, 5),
            x -> x.wrongText(many(14, "put 0 6").length() + 1, many(15, "put 0 6")), "fault[]");
    }

    /** A text may fill the whole tape; its last byte, and its length, can be the first wrong one. */
    private static void fourHundredBytes() {
        String full = many(14, "mend");
        String padded = " ".repeat(400 - full.length()) + full;
        right("", 14, padded);
        right("", 14, full + " ".repeat(400 - full.length()));
        right("", 0, " ".repeat(400));
        wrong("", 399, full + " ".repeat(399 - full.length()) + "?");
        wrong("", 400, full.substring(5) + " ".repeat(404 - full.length()) + ";");
        wrong("", 400, " ".repeat(397) + "net");
        wrong("", 396, " ".repeat(396) + "menx");
        right("", 1, " ".repeat(395) + "net 3");
        wrong("", 399, " ".repeat(395) + "net 4");
    }

    private static void manyThings(Drive x) {
        x.text(9, "net 2;landmark 5 5;landmark 90 5;join 1 1 at 0 0;join 2 2 at 20 0;join 3 3 at 20 20;put 0 1;put 3 4;put 8 9");
        x.does("image").due(2, "go", 1, 1).refused(7, "tidy").due(0, "mend").due(3, "join", 4, 4, 4, 20);
    }

    /** "Of a wrong text nothing stays": whatever it did, and wherever it is wrong. */
    private static void nothingStays() {
        String[] done = {
            "net 1", "net 3;join 1 1 near;put 5 5", "landmark 7 7", "join 8 8 at 3 3", "join 8 8 near", "leave 0", "crash 0", "notice 1",
            "notice 1;tidy", "put 3 5", "put 7 7", "cut 0", "notice 1;mend", "leave 0;leave 2;notice 1;leave 3"
        };
        for (String acts : done) {
            Look.same("nothing stays of [" + acts + ";x]", GrammarTest::manyThings, x -> x.wrongText(acts.length() + 1, acts + ";x"), "fault[]");
            Look.same("nothing stays of [" + acts + "; cut 99]", GrammarTest::manyThings,
                x -> x.wrongText(acts.length() + 2, acts + "; cut 99").due(9, "why"), "fault[]", "why[]");
        }
        Look.same("nothing stays of [mend;]", GrammarTest::manyThings, x -> x.wrongText(5, "mend;"), "fault[]");
        Look.same("nothing stays of [x]", GrammarTest::manyThings, x -> x.wrongText(0, "x"), "fault[]");
    }

    /** "[ ACT .. ]": a text without an act is right, and changes nothing but what is remembered. */
    private static void noAct() {
        for (String text : new String[] {"", " ", "                     "}) {
            Drive x = new Drive("no act");
            manyThings(x);
            x.refused(9, "cut", 50).wrongText(2, "  ?").text(0, text).due(9, "why").due(0, "count", 7).state("undo").due(9, "why").due(13, "count", 1);
        }
    }

    /** "They are done one behind another". */
    private static void oneBehindAnother() {
        Drive x = new Drive("one behind another");
        x.text(14, "join 1 1 at 0 0;put 0 1;crash 0;notice 0;join 2 2 at 9 9;join 3 3 at 20 9;put 0 2;put 3 3;leave 1;join 4 4 at 0 0;"
            + "cut 0;put 0 7;crash 0;notice 0");
        x.due(2, "count", 1).due(1, "zone", 1, 0, 0).due(4, "node", 1, 1).due(7, "key", 0, 0).due(1, "key", 0, 1).due(3, "key", 3, 0);
        x.wrongText(8, "crash 1;crash 1").due(4, "why").wrongText(6, "cut 0;cut 0;cut 0").due(9, "why").due(7, "key", 0, 0);
        // A net in the middle forgets what was done ahead of it, landmarks too.
        x.text(6, "landmark 1 1;landmark 2 2;landmark 3 3;net 2;landmark 4 4;join 0 0 near").due(1, "count", 3).due(2, "count", 0);
        x.due(-1, "key", 0, 0).due(1, "count", 1).due(1, "zone", 0, 1, 0);
    }
}
