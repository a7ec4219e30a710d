/** Promises 4 (acts), 5 (fault) and 6 (why). */
public final class TextTest {
    public static void main(String[] args) {
        rightTexts();
        everyAct();
        fourteenActs();
        wrongThings();
        wrongNumbers();
        moreMustCome();
        refusedInTexts();
        nothingStays();
        netStartsAnew();
        whyIsKept();
        faultIsOfTheLatest();
        Drive.finish();
    }

    private static void rightTexts() {
        Drive x = new Drive("right texts");
        x.text(0, "").text(0, "    ").text(1, "tidy").text(1, "  tidy  ").text(2, "tidy;mend").text(2, " tidy ;  mend ");
        x.text(1, "net 2").due(2, "count", 0).text(1, "net3").due(3, "count", 0);
        x.text(1, "net 001").due(1, "count", 0).text(1, "  net   02 ").due(2, "count", 0);
        x.text(1, "join1 2at3 4").due(1, "node", 0, 1).due(2, "node", 0, 2);
        x.text(1, "join 099 000 at 031 000").due(99, "node", 1, 1).due(0, "node", 1, 2).due(1, "cell", 0, 31, 0, 1);
        x.text(1, "join 3 4near").due(3, "node", 2, 1).text(3, "put 99 999;put0 0;put 5 05");
        x.due(999, "key", 99, 0).due(0, "key", 0, 0).due(5, "key", 5, 0);
        x.text(1, "cut 099").due(-1, "key", 99, 0).text(1, "crash02").due(2, "node", 2, 0);
        x.text(1, "notice2").due(0, "node", 2, 0).text(1, "leave 1").due(1, "count", 1);
    }

    private static void everyAct() {
        Drive x = new Drive("every act");
        x.text(13, "net 3;landmark 0 99;landmark 99 0;join 0 0 at 0 0;join 9 9 near;put 0 999;put 1 7;cut 0;"
            + "crash 1;notice 1;mend;tidy;leave 0");
        x.due(3, "count", 0).due(0, "count", 1).due(0, "count", 2).due(2, "count", 3).due(1, "count", 4);
        x.due(0, "count", 5).due(3, "count", 6).due(0, "count", 7).due(7, "key", 1, 0).due(0, "key", 1, 1);
    }

    private static void fourteenActs() {
        Drive x = new Drive("fourteen acts");
        String fourteen = "tidy;mend;tidy;mend;tidy;mend;tidy;mend;tidy;mend;tidy;mend;tidy;mend";
        x.text(14, fourteen).text(14, fourteen + "   ");
        x.wrongText(fourteen.length() + 1, fourteen + ";tidy");
        x.wrongText(fourteen.length() + 3, fourteen + " ; tidy;tidy");
        x.wrongText(fourteen.length() + 1, fourteen + ";");
        x.wrongText(fourteen.length() + 3, fourteen + ";  ");
        x.wrongText(fourteen.length() + 1, fourteen + ";?");
        x.wrongText(fourteen.length(), fourteen + "?");
        x.wrongText(fourteen.length() + 1, fourteen + ";leave 0").due(0, "why");
    }

    private static void wrongThings() {
        Drive x = new Drive("wrong things");
        x.wrongText(0, "nett 1").wrongText(0, "ne").wrongText(0, "Net 1").wrongText(0, "netjoin").wrongText(0, "1");
        x.wrongText(0, ";").wrongText(2, "  x").wrongText(0, "at 1 1").wrongText(0, "near").wrongText(0, "nullpunkt");
        x.wrongText(5, "tidy;;mend").wrongText(5, "tidy tidy").wrongText(4, "tidy,mend").wrongText(7, "tidy;  x");
        x.wrongText(4, "tidy\t").wrongText(4, "tidy\n").wrongText(4, "tidy\0").wrongText(5, "tidy \u00e9");
        x.wrongText(0, "tidY").wrongText(4, "tidy1").wrongText(5, "tidy;1").wrongText(0, "tidymend");
        x.wrongText(6, "net 1 2").wrongText(3, "net;1").wrongText(4, "net one").wrongText(4, "net -1");
        x.wrongText(9, "join 0 0 to 1 1").wrongText(9, "join 0 0 att 1 1").wrongText(8, "join 0 0nearby");
        x.wrongText(9, "join 0 0 tidy").wrongText(9, "join 0 0 7").wrongText(8, "join 0 0;tidy").wrongText(7, "join 0 at 1 1");
        x.wrongText(14, "join 0 0 near 1").wrongText(16, "join 0 0 at 1 1 1").wrongText(13, "join 0 0 at 1at");
        x.wrongText(5, "mend x").wrongText(5, "mend 0").wrongText(8, "landmark,1 1").wrongText(11, "landmark 1 a");
    }

    private static void wrongNumbers() {
        Drive x = new Drive("wrong numbers");
        x.wrongText(4, "net 0").wrongText(4, "net 4").wrongText(4, "net 0001").wrongText(4, "net 999999999999999999");
        x.wrongText(4, "net 4294967297").wrongText(9, "landmark 100 1").wrongText(11, "landmark 1 100");
        x.wrongText(5, "join 100 0 near").wrongText(7, "join 0 100 near").wrongText(7, "join 0 0000 near");
        x.wrongText(12, "join 0 0 at 32 0").wrongText(14, "join 0 0 at 0 32").wrongText(12, "join 0 0 at 0000 0");
        x.wrongText(6, "leave 10").wrongText(6, "crash 10").wrongText(7, "notice 10").wrongText(4, "put 100 0");
        x.wrongText(6, "put 0 1000").wrongText(4, "cut 100").wrongText(9, "net 1;cut0100");
        x.text(1, "join 99 99 at 31 31").text(1, "put 99 999").text(1, "landmark 99 99").text(1, "crash 0");
    }

    private static void moreMustCome() {
        Drive x = new Drive("more must come");
        x.wrongText(3, "net").wrongText(5, "net  ").wrongText(10, "landmark 1").wrongText(8, "landmark");
        x.wrongText(4, "join").wrongText(6, "join 0").wrongText(8, "join 0 0").wrongText(9, "join 0 0 ");
        x.wrongText(11, "join 0 0 at").wrongText(13, "join 0 0 at 0").wrongText(5, "leave").wrongText(5, "crash");
        x.wrongText(6, "notice").wrongText(3, "put").wrongText(5, "put 0").wrongText(3, "cut");
        x.wrongText(5, "tidy;").wrongText(7, "tidy ; ").wrongText(9, "mend;join");
    }

    private static void refusedInTexts() {
        Drive x = new Drive("refused in texts");
        x.wrongText(0, "leave 0").due(4, "why").wrongText(2, "  crash 0").due(4, "why");
        x.wrongText(0, "notice 0").due(5, "why").wrongText(5, "mend;put 0 0").due(8, "why");
        x.wrongText(5, "mend;cut 0").due(9, "why");
        x.wrongText(45, "landmark 0 0;landmark 0 0;landmark 0 0;mend; landmark 0 0").due(10, "why").due(0, "count", 3);
        x.wrongText(24, "join 0 0 at 0 0;crash 0;tidy").due(7, "why");
        x.wrongText(24, "join 0 0 at 0 0;crash 0;join 0 0 near").due(3, "why");
        x.wrongText(36, "join 0 0 near;join 0 0 near;crash 1;join 0 0near;leave 1").due(3, "why");
        x.wrongText(36, "join 0 0 near;join 0 0 near;crash 0;leave 1").due(6, "why");
        x.wrongText(44, "join 0 0 near;join 0 0 near;crash 0;crash 1;notice 0").due(6, "why");
        StringBuilder ten = new StringBuilder();
        for (int i = 0; i < 10; i++) {
            ten.append("join 0 0 near;");
        }
        x.wrongText(140, ten + "join 0 0 near").due(1, "why");
        x.text(12, ten + "leave 0;join 0 0 near").wrongText(8, "leave 1;join 0 0 near").due(2, "why");
        x.due(1023, "count", 1);
        // A refusal stands ahead of what is wrong behind it, a slip ahead of what would be refused behind it.
        Drive y = new Drive("refused first");
        y.wrongText(0, "leave 0 x").due(4, "why").wrongText(0, "cut 0;;").due(9, "why");
        y.wrongText(4, "put 100 0;leave 0").due(9, "why").wrongText(5, "tidy leave 0").due(9, "why");
    }

    private static void nothingStays() {
        Drive x = new Drive("nothing stays");
        x.text(4, "net 2;landmark 5 5;join 1 1 at 0 0;put 4 4").does("join", 2, 2, 20, 20).due(1, "count", 7);
        x.wrongText(71, "net 1;landmark 1 1;join 9 9 at 0 0;put 4 5;cut 4;crash 0;notice 0;mend;x");
        x.due(2, "count", 0).due(3, "count", 1).due(1, "count", 3).due(1, "count", 4).due(4, "key", 4, 0);
        x.due(3, "key", 4, 1).due(1, "node", 0, 1).due(2, "node", 1, 1).due(2, "zone", 0, 0, 0).due(3, "zone", 1, 0, 0);
        x.due(1, "count", 7).due(0, "undo").due(1, "count", 1).due(1, "zone", 0, 1, 0);
    }

    private static void netStartsAnew() {
        Drive x = new Drive("net");
        x.text(7, "net 3;landmark 1 1;landmark 2 2;join 1 1 at 0 0;join 2 2 near;put 4 4;crash 1").due(3, "count", 0);
        x.does("image").text(1, "net 2").due(2, "count", 0);
        for (int what = 1; what <= 7; what++) {
            x.due(0, "count", what);
        }
        x.due(0, "reality", 0, 0).due(0, "reality", 1, 0).index("reality", 2, 0).due(-1, "key", 4, 0).due(0, "key", 4, 1);
        x.due(0, "node", 0, 0).due(0, "node", 1, 0).due(0, "order", 2, 2).due(-1, "cell", 1, 5, 5, 1);
        x.due(0, "join", 7, 7, 3, 3).due(1, "zone", 0, 0, 0).due(1, "zone", 0, 1, 0).text(1, "net 3");
        x.due(0, "reality", 2, 0).due(true, "back").due(3, "count", 0).due(2, "node", 1, 0).due(4, "key", 4, 0);
    }

    private static void whyIsKept() {
        Drive x = new Drive("why");
        x.due(0, "why").refused(9, "cut", 3).due(0, "mend").due(0, "why").refused(4, "go", 0, 0);
        x.text(0, " ").due(4, "why").wrongText(0, "what").due(4, "why").wrongText(5, "mend;").due(4, "why");
        x.index("go", 10, 0).due(4, "why").element("go", 0, 3).due(4, "why").argument("join", 0, 0, 32, 0).due(4, "why");
        x.argument("near", 0, 100).due(4, "why").argument("put", 0, 1000).due(4, "why").index("cut", 100).due(4, "why");
        x.state("undo").due(4, "why").state("way", 0, 0, 0, 0, 0).due(4, "why");
        x.state("seek", 0, 0, 0).due(4, "why").does("image").due(true, "back").due(4, "why");
        x.wrongText(5, "mend;cut 7").due(9, "why").text(1, "mend").due(0, "why");
        x.refused(9, "cut", 1).due(0, "join", 1, 1, 1, 1).due(0, "why").refused(5, "go", 0, 2).due(1, "put", 1, 1).due(0, "why");
    }

    private static void faultIsOfTheLatest() {
        Drive x = new Drive("fault");
        x.due(-1, "fault").wrongText(5, "mend;").refused(9, "cut", 1).due(5, "fault").due(0, "mend").due(5, "fault");
        x.does("image").due(true, "back").due(5, "fault").due(0, "acts").due(-1, "fault");
        x.wrongText(0, "leave 0").due(20, "feed", 0, 0, 0, 0, 0).due(0, "fault").due(true, "end", 0).due(0, "acts").due(-1, "fault");
    }
}
