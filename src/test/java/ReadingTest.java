/** Promises 1 to 7: a new object, the tape, the four texts and their faults. */
public final class ReadingTest {
    private static final Check CHECK = new Check();

    public static void main(String[] args) {
        newObject();
        tape();
        fieldClauses();
        fieldFaults();
        fieldForgets();
        faultsLeaveAllElse();
        lawFaults();
        workFaults();
        bookFaults();
        wrongLengths();
        tooManyWorks();
        CHECK.end();
    }

    private static void newObject() {
        FieldStones x = new FieldStones();
        int[] told = {6, 4, 0, 0, 0, 0, 0, 0, 0, 0};
        for (int what = 0; what < told.length; what++) {
            CHECK.is("1: told " + what, told[what], x.told(what));
        }
        for (int what = 0; what < 3; what++) {
            CHECK.is("1: count", 0, x.count(what));
            CHECK.is("1: status", 0, x.status(what));
            CHECK.is("1: sledge", 0, x.sledge(what));
        }
        CHECK.is("1: fault", -1, x.fault());
        CHECK.is("1: NONE", -1, FieldStones.NONE);
        CHECK.is("1: soil", 5, x.cell(5, 3, 0));
        CHECK.is("1: damage is twice the size", 18, x.damage(0, 0, 9));
        CHECK.is("1: none rises", 0, x.rises(0, 0));
        CHECK.is("1: without a book all sizes fit", 511, x.fits());
    }

    private static void tape() {
        FieldStones x = new FieldStones();
        CHECK.is("2: feed", 20, x.feed(0x62617220, 0x353b7878, 0, -1, 0x80000000));
        CHECK.is("2: the highest byte first", 0, x.field(6));
        CHECK.is("2: the tape is empty then", 0, x.count(1));
        x.feed(0x62617220, 0x353b7878, 0, -1, 0x80000000);
        CHECK.is("2: what else is on it", -9, x.field(20));
        CHECK.is("2: its place", 6, x.fault());
        for (int i = 1; i <= 30; i++) {
            CHECK.is("2: how many", 20 * i, x.feed(0, 0, 0, 0, 0));
        }
        CHECK.is("2: more than 600", -1, x.feed(1, 2, 3, 4, 5));
        CHECK.is("2: nothing is done", 600, x.count(1));
        CHECK.is("2: all 600 are read", -9, x.field(600));
        CHECK.is("2: then there is room", 20, x.feed(0, 0, 0, 0, 0));
        FieldStones full = new FieldStones();
        Check.feed(full, " ".repeat(595) + "bar 5");
        CHECK.is("2: the last byte counts", -9, full.field(600));
        CHECK.is("2: at the length", 600, full.fault());
    }

    private static void fieldClauses() {
        FieldStones x = new FieldStones();
        CHECK.is("3: stones", 2, Check.field(x, "field 8 6;stone 7 5 9;stone 0 0 1;soil 7 5 99;soil 7 5 0;"));
        CHECK.is("3: W", 8, x.told(0));
        CHECK.is("3: H", 6, x.told(1));
        CHECK.is("3: the last soil counts", 0, x.cell(7, 5, 0));
        CHECK.is("3: other soil", 5, x.cell(6, 5, 0));
        CHECK.is("3: X", 7, x.stone(0, 0));
        CHECK.is("3: Y", 5, x.stone(0, 1));
        CHECK.is("3: size", 9, x.stone(0, 2));
        Check.field(x, "lads 1 2 3;lads 3 5 2;bar 9;bar 30;stone 3 0 5;stone 3 0 6;sledge 7 2 3;sledge 4 5 6;");
        CHECK.is("3: the last lads count: 4 K (X and 1) and the size", 4 * 4 + 5, x.clear(0));
        CHECK.is("3: the last bar counts", 180, x.clear(1));
        CHECK.is("3: the last sledge counts", 1, Check.work(x, "to 2 1;"));
        CHECK.is("3: B and P times 3", 19, x.sums(0));
        Check.field(x, "stone 1 0 4;stone 1 0 5;" + "stone 0 0 1;".repeat(13));
        CHECK.is("3: a sledge without a clause holds 12", (1 << 12) - 1 << 2, x.loads(0, 0));
        Check.work(x, "to 1 1;");
        CHECK.is("3: B and P without a clause", 5, x.sums(0));
        CHECK.is("3: lads without a clause", 2 * 2 + 4, x.clear(0));
        CHECK.is("3: bar without a clause", 25, x.clear(1));
        String[] sound = {"", "   ", "stone0 0 1;", " stone  0  0  1 ; ", "bar 00000000000000000007;", "field8 6 ;",
            "field 1 1;stone 0 0 9;", "lads 6 9 9;sledge 0 1 1;sledge 60 9 99;bar 1;", "bar 1;".repeat(60) + " "};
        for (String text : sound) {
            CHECK.is("3: sound '" + text + "'", text.contains("stone") ? 1 : 0, Check.field(x, text));
            CHECK.is("7: no fault", -1, x.fault());
        }
        CHECK.is("3: 30 stones", 30, Check.field(x, "stone 0 0 1;".repeat(30)));
    }

    private static void fieldFault(String text, int kind, int place) {
        FieldStones x = new FieldStones();
        CHECK.is("3: '" + text + "'", kind - 10, Check.field(x, text));
        CHECK.is("7: place in '" + text + "'", place, x.fault());
    }

    private static void fieldFaults() {
        fieldFault(";", 1, 0);
        fieldFault("bar 5", 1, 5);
        fieldFault("bar 5  ", 1, 7);
        fieldFault("stone 0 0;", 1, 9);
        fieldFault("Bar 5;", 1, 0);
        fieldFault(" bars 5;", 1, 1);
        fieldFault("ba 5;", 1, 0);
        fieldFault("bar -5;", 1, 4);
        fieldFault("bar 5 5;", 1, 6);
        fieldFault("bar 5;x", 1, 6);
        fieldFault("bar 5;;", 1, 6);
        fieldFault("bar\t5;", 1, 3);
        fieldFault("bar 5" + (char) 233 + ";", 1, 5);
        fieldFault("bar 0;", 2, 4);
        fieldFault("bar 31;", 2, 4);
        fieldFault("bar 4294967301;", 2, 4);
        fieldFault("bar  99999999999999999999;", 2, 5);
        fieldFault("field 0 1;", 2, 6);
        fieldFault("field 9 1;", 2, 6);
        fieldFault("field 8 7;", 2, 8);
        fieldFault("field 1 0;", 2, 8);
        fieldFault("field 3 2;stone 3 0 1;", 2, 16);
        fieldFault("field 3 2;stone 2 2 1;", 2, 18);
        fieldFault("stone 0 0 0;", 2, 10);
        fieldFault("stone 6 9 99;", 2, 6);
        fieldFault("soil 0 0 100;", 2, 9);
        fieldFault("lads 0 1 1;", 2, 5);
        fieldFault("lads 6 0 1;", 2, 7);
        fieldFault("lads 7 9 1;", 2, 5);
        fieldFault("lads 6 10 1;", 2, 7);
        fieldFault("lads 6 9 10;", 2, 9);
        fieldFault("lads 6 9 0;", 2, 9);
        fieldFault("sledge 61 1 1;", 2, 7);
        fieldFault("sledge 60 0 1;", 2, 10);
        fieldFault("sledge 60 10 1;", 2, 10);
        fieldFault("sledge 60 9 0;", 2, 12);
        fieldFault("sledge 60 9 100;", 2, 12);
        fieldFault("bar 1;field 2 2;", 4, 6);
        fieldFault("field 2 2; field 2 2;", 4, 11);
        fieldFault("stone 0 0 1;".repeat(31), 3, 360);
        fieldFault("stone 0 0 1;".repeat(30) + "stone 9 9 9;", 3, 360);
        fieldFault("bar 1;".repeat(61), 3, 360);
        fieldFault("bar 1;".repeat(60) + " field 1 1;", 3, 361);
        fieldFault("bar 1;".repeat(60) + "bars", 1, 360);
    }

    private static void fieldForgets() {
        FieldStones x = Check.field("stone 0 0 4;");
        useUp(x);
        CHECK.is("3: a fault", -9, Check.field(x, "bar"));
        CHECK.is("3: keeps the law", 7, x.damage(0, 0, 1));
        CHECK.is("3: keeps the year", 1, x.told(7));
        CHECK.is("3: keeps the book", 1, x.told(8));
        CHECK.is("3: keeps the refused", 1, x.told(9));
        CHECK.is("3: keeps images", 1, x.count(0));
        CHECK.is("3: keeps works", 1, x.count(2));
        CHECK.is("3: keeps stones", 47, x.told(2));
        // More than once: what an earlier field left behind must not come back.
        for (int i = 0; i < 4; i++) {
            CHECK.is("3: new", 1, Check.field(x, "stone 0 0 4;"));
            isNew(x);
            useUp(x);
        }
        CHECK.is("3: 0 bytes", 0, x.field(0));
        CHECK.is("3: no stones", 0, x.told(2));
    }

    private static void useUp(FieldStones x) {
        Check.law(x, 0, "7");
        Check.law(x, 1, "2");
        Check.book(x, "0 0 1;");
        Check.work(x, "lift 0 0;to 1 0;heap;winter;lift 2 1;to 5 3;lift 1 1;wall;lift 5 3;bar;round 4 3;to 1 1;");
        x.image();
    }

    private static void isNew(FieldStones x) {
        CHECK.is("3: no law", 2, x.damage(0, 0, 1));
        CHECK.is("3: none rises", 0, x.rises(0, 0));
        int[] told = {6, 4, 1, 1, 0, 0, 0, 0, 0, 0};
        for (int what = 0; what < told.length; what++) {
            CHECK.is("3: told " + what, told[what], x.told(what));
        }
        for (int what = 0; what < 4; what++) {
            CHECK.is("3: sums", 0, x.sums(what));
        }
        for (int what = 0; what < 3; what++) {
            CHECK.is("3: sledge", 0, x.sledge(what));
        }
        for (int cell = 0; cell < 24; cell++) {
            CHECK.is("3: lies", cell == 0 ? 1 : 0, x.cell(cell % 6, cell / 6, 1));
            CHECK.is("3: lost", 0, x.cell(cell % 6, cell / 6, 3));
            CHECK.is("3: in a heap", 0, x.cell(cell % 6, cell / 6, 4));
        }
        CHECK.is("3: the year in which it came", 0, x.stone(0, 3));
        CHECK.is("3: it lies", 0, x.stone(0, 4));
        CHECK.is("3: no image", -1, x.restore());
        CHECK.is("3: nothing to undo", -1, x.undo());
    }

    private static void faultsLeaveAllElse() {
        FieldStones x = Check.field("stone 0 0 4;stone 1 0 1;");
        Check.law(x, 0, "5");
        Check.law(x, 1, "1");
        Check.book(x, "1 1 1;2 2 2;");
        Check.work(x, "bar;winter;");
        CHECK.is("4: fault", -9, Check.law(x, 0, "size*"));
        CHECK.is("4: fault", -8, Check.law(x, 1, "1000"));
        CHECK.is("6: fault", -9, Check.book(x, "0 0 1;1"));
        CHECK.is("5: fault", -9, Check.work(x, "winter;winter;to"));
        CHECK.is("7: at the length", 16, x.fault());
        CHECK.is("4: damage stays", 5, x.damage(0, 0, 9));
        CHECK.is("4: rise stays", 1, x.rises(0, 0));
        CHECK.is("6: the book stays", 2, x.told(8));
        CHECK.is("5: none is done", 1, x.told(7));
        CHECK.is("9: a fault leaves the refused", 1, x.told(9));
        CHECK.is("5: nothing more to undo", 1, x.count(2));
        CHECK.is("5: the tape is empty", 0, x.count(1));
        CHECK.is("6: no lines", 0, x.book(0));
        CHECK.is("6: a book without lines", 0, x.told(8));
    }

    private static void lawFault(String text, int kind, int place) {
        FieldStones x = new FieldStones();
        CHECK.is("4: '" + text + "'", kind - 10, Check.law(x, 0, text));
        CHECK.is("7: place in '" + text + "'", place, x.fault());
        CHECK.is("4: '" + text + "'", kind - 10, Check.law(x, 1, text));
    }

    private static void lawFaults() {
        lawFault("", 1, 0);
        lawFault("  ", 1, 2);
        lawFault("size size", 1, 5);
        lawFault("1+", 1, 2);
        lawFault("+1", 1, 0);
        lawFault("1--1", 1, 2);
        lawFault("1*/2", 1, 2);
        lawFault("1000", 2, 0);
        lawFault("1 + 1000x", 2, 4);
        lawFault("(1", 1, 2);
        lawFault("(1))", 1, 3);
        lawFault("()", 1, 1);
        lawFault("if(1,2,3)", 1, 2);
        lawFault("if[1,2]", 1, 6);
        lawFault("if[1,2,3,4]", 1, 8);
        lawFault("if[1,2,3", 1, 8);
        lawFault("if", 1, 2);
        lawFault("1;", 1, 1);
        lawFault("sizes", 1, 0);
        lawFault("siz", 1, 0);
        lawFault("sizeX", 1, 4);
        lawFault("size2", 1, 4);
        lawFault("2size", 1, 1);
        lawFault("(((((((1)))))))", 3, 6);
        lawFault("if[if[if[if[if[if[if[1,2,3],2,3],2,3],2,3],2,3],2,3],2,3]", 3, 18);
        lawFault("(((if[1,((  if", 3, 12);
        lawFault("((((((1", 1, 7);
        String[] sound = {"((((((1))))))+((((((1))))))", " ( 1 ) ", "if [ 1 , 2 , 3 ]", "0999", "x%y", "all*many-year/soil",
            "if[if[if[if[if[if[1,2,3],2,3],2,3],2,3],2,3],2,3]", "(((if[1,((2)),3])))", "1" + "+1".repeat(74) + " "};
        FieldStones x = new FieldStones();
        for (String text : sound) {
            CHECK.is("4: sound '" + text + "'", 1, Check.law(x, 0, text));
            CHECK.is("7: no fault", -1, x.fault());
        }
        CHECK.is("4: all 150 bytes", 75, x.damage(0, 0, 1));
    }

    private static void workFault(String text, int kind, int place) {
        FieldStones x = new FieldStones();
        CHECK.is("5: '" + text + "'", kind - 10, Check.work(x, text));
        CHECK.is("7: place in '" + text + "'", place, x.fault());
        CHECK.is("5: nothing to undo", 0, x.count(2));
    }

    private static void workFaults() {
        workFault("to 0;", 1, 4);
        workFault("to 0 0", 1, 6);
        workFault("bar 1;", 1, 4);
        workFault("wall", 1, 4);
        workFault("];", 1, 0);
        workFault("go;", 1, 0);
        workFault("toll 1 1;", 1, 0);
        workFault("winter;;", 1, 7);
        workFault("again 2 [bar;]", 1, 14);
        workFault("again 2 bar;", 1, 8);
        workFault("again 2 [bar];", 1, 12);
        workFault("again [bar;];", 1, 6);
        workFault("again 2 [", 1, 9);
        workFault("to 6 0;", 2, 3);
        workFault("to 0 4;", 2, 5);
        workFault("lift 6 4;", 2, 5);
        workFault("round 0 4;", 2, 8);
        workFault("again 21 [];", 2, 6);
        workFault("again 2[".repeat(7), 3, 48);
        workFault("again 2[".repeat(6) + "go", 1, 48);
        FieldStones x = new FieldStones();
        CHECK.is("5: six open", 2, Check.work(x, "again 1[".repeat(6) + "bar;winter;winter;" + "];".repeat(6)));
        CHECK.is("5: no step", 0, Check.work(x, "  again0[];again 20 [ ] ; "));
        CHECK.is("7: no fault", -1, x.fault());
        CHECK.is("5: six open, again", 6, Check.work(x, ("again 1[".repeat(6) + "winter;" + "];".repeat(6)).repeat(1)
            + "again 5 [again 1 [winter;];];"));
    }

    private static void bookFault(String text, int kind, int place) {
        FieldStones x = new FieldStones();
        CHECK.is("6: '" + text + "'", kind - 10, Check.book(x, text));
        CHECK.is("7: place in '" + text + "'", place, x.fault());
        CHECK.is("6: no lines", 0, x.told(8));
    }

    private static void bookFaults() {
        String six = "0 0 1;1 0 1;2 0 1;3 0 1;4 0 1;5 0 1;";
        bookFault(";", 1, 0);
        bookFault("x", 1, 0);
        bookFault("0 0;", 1, 3);
        bookFault("0 0 1", 1, 5);
        bookFault("0 0 1 1;", 1, 6);
        bookFault("6 0 1;", 2, 0);
        bookFault("0 4 1;", 2, 2);
        bookFault("0 0 61;", 2, 4);
        bookFault("0 0 1;0 0 2;", 2, 8);
        bookFault("0 0 1;1 0 1; 0  0 2;", 2, 16);
        bookFault(six + "0 1 1;", 3, 36);
        bookFault(six + " 0", 3, 37);
        bookFault(six + "6 1 1;", 2, 36);
        bookFault(six + ";", 1, 36);
        FieldStones x = new FieldStones();
        CHECK.is("6: six lines", 6, Check.book(x, six + "  "));
        CHECK.is("9: lines", 6, x.told(8));
        CHECK.is("6: another book", 2, Check.book(x, "0 0 60; 5 3 0 ;"));
        CHECK.is("9: lines", 2, x.told(8));
    }

    private static void wrongLengths() {
        FieldStones x = new FieldStones();
        Check.field(x, "x");
        CHECK.noArgument("3: more than the tape", () -> x.field(1));
        CHECK.is("7: an exception reads nothing", 0, x.fault());
        for (int i = 0; i < 12; i++) {
            x.feed(0x20202020, 0x20202020, 0x20202020, 0x20202020, 0x20202020);
        }
        CHECK.noArgument("3: less than 0", () -> x.field(-1));
        CHECK.noArgument("3: more than the tape", () -> x.field(241));
        CHECK.noArgument("3: the least", () -> x.field(Integer.MIN_VALUE));
        CHECK.noArgument("4: more than 150", () -> x.law(0, 151));
        CHECK.noArgument("4: less than 0", () -> x.law(1, -1));
        CHECK.noArgument("4: another law", () -> x.law(2, 0));
        CHECK.noArgument("4: another law", () -> x.law(-1, 0));
        CHECK.noArgument("5: more than 200", () -> x.work(201));
        CHECK.noArgument("5: less than 0", () -> x.work(-1));
        CHECK.noArgument("6: more than 100", () -> x.book(101));
        CHECK.noArgument("6: less than 0", () -> x.book(-1));
        CHECK.is("3: the tape stays", 240, x.count(1));
        CHECK.is("5: 200 bytes", 0, x.work(200));
        x.feed(0, 0, 0, 0, 0);
        CHECK.noArgument("6: more than the tape", () -> x.book(21));
        CHECK.noArgument("5: more than the tape", () -> x.work(21));
        CHECK.noArgument("4: more than the tape", () -> x.law(0, 21));
        CHECK.is("35: all were counted", 15, x.status(2));
        FieldStones y = Check.field("stone 0 0 2;lads 1 1 1;bar 7;");
        CHECK.is("3: the least A", 14, y.clear(0));
        Check.feed(y, " ".repeat(100));
        CHECK.is("6: 100 bytes", 0, y.book(100));
    }

    private static void tooManyWorks() {
        FieldStones x = new FieldStones();
        for (int i = 1; i <= 20; i++) {
            CHECK.is("5: work", 1, Check.work(x, "winter;bar;"));
            CHECK.is("36: works", i, x.count(2));
        }
        Check.law(x, 0, "(");
        CHECK.is("7: a fault", 1, x.fault());
        CHECK.is("5: ahead of the fault", -20, Check.work(x, "go"));
        CHECK.is("7: there is none", -1, x.fault());
        CHECK.is("5: the tape is empty", 0, x.count(1));
        CHECK.is("9: the refused stay", 1, x.told(9));
        CHECK.is("5: nothing is done", -20, Check.work(x, "winter;"));
        CHECK.is("5: nothing is done", 20, x.told(7));
        CHECK.noArgument("5: the exception is ahead", () -> x.work(1));
        CHECK.is("8: undo", 19, x.undo());
        CHECK.is("5: one more", 2, Check.work(x, "winter;winter;"));
        CHECK.is("5: full again", -20, x.work(0));
    }
}
