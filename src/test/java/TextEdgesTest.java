/** Promises 2 to 7: each bound that the document tells of texts, the last that is taken and the first that is not. */
public final class TextEdgesTest {
    private static final Check CHECK = new Check();
    private static final int FIELD = 0;
    private static final int HARM = 1;
    private static final int WORK = 2;
    private static final int BOOK = 3;
    private static final String[] KINDS = {"3: field", "4: law", "5: work", "6: book"};

    public static void main(String[] args) {
        numbersOfFields();
        numbersOfLaws();
        numbersOfWorks();
        numbersOfBooks();
        lastClauseCounts();
        withoutClauses();
        howMany();
        deep();
        twice();
        fieldAhead();
        ofOneTheLeast();
        signsBesideLetters();
        blanks();
        cutShort();
        bytesOnTheTape();
        longest();
        latestFault();
        nothingOfFieldsBefore();
        booksBehindFaults();
        CHECK.end();
    }

    private static int read(FieldStones x, int kind, int n) {
        switch (kind) {
            case FIELD:
                return x.field(n);
            case HARM:
                return x.law(0, n);
            case WORK:
                return x.work(n);
            default:
                return x.book(n);
        }
    }

    private static void isFine(int kind, String ground, String text) {
        FieldStones x = Check.field(ground);
        Check.feed(x, text);
        CHECK.isTrue(KINDS[kind] + " takes '" + text + "'", read(x, kind, text.length()) >= 0);
        CHECK.is("7: no fault in '" + text + "'", -1, x.fault());
    }

    private static void isFault(int kind, String ground, String text, int fault, int place) {
        FieldStones x = Check.field(ground);
        Check.feed(x, text);
        CHECK.is(KINDS[kind] + ", fault of '" + text + "'", fault - 10, read(x, kind, text.length()));
        CHECK.is("7: its place in '" + text + "'", place, x.fault());
    }

    /** A number between two parts of a text: its bounds are taken, what is beside them is no such number. */
    private static void number(int kind, String ground, String ahead, String behind, int low, int high) {
        int place = ahead.length();
        isFine(kind, ground, ahead + low + behind);
        isFine(kind, ground, ahead + high + behind);
        isFine(kind, ground, ahead + "0000000000000" + high + behind);
        isFault(kind, ground, ahead + (high + 1) + behind, 2, place);
        isFault(kind, ground, ahead + "0" + (high + 1) + behind, 2, place);
        isFault(kind, ground, ahead + ((1L << 32) + low) + behind, 2, place);
        isFault(kind, ground, ahead + "18446744073709551617" + behind, 2, place);
        isFault(kind, ground, ahead + "  " + (high + 1) + behind, 2, place + 2);
        isFault(kind, ground, ahead + "-" + low + behind, 1, place);
        isFault(kind, ground, ahead + "q" + behind, 1, place);
        if (low > 0) {
            isFault(kind, ground, ahead + (low - 1) + behind, 2, place);
        }
    }

    private static void numbersOfFields() {
        number(FIELD, "", "field ", " 1;", 1, 8);
        number(FIELD, "", "field 1 ", ";", 1, 6);
        number(FIELD, "", "field 8 6;stone ", " 5 1;", 0, 7);
        number(FIELD, "", "field 8 6;stone 7 ", " 1;", 0, 5);
        number(FIELD, "", "field 1 1;stone ", " 0 1;", 0, 0);
        number(FIELD, "", "field 1 1;stone 0 ", " 1;", 0, 0);
        number(FIELD, "", "stone ", " 3 1;", 0, 5);
        number(FIELD, "", "stone 5 ", " 1;", 0, 3);
        number(FIELD, "", "stone 5 3 ", ";", 1, 9);
        number(FIELD, "", "field 3 2;soil ", " 1 1;", 0, 2);
        number(FIELD, "", "field 3 2;soil 2 ", " 1;", 0, 1);
        number(FIELD, "", "soil ", " 3 1;", 0, 5);
        number(FIELD, "", "soil 5 ", " 1;", 0, 3);
        number(FIELD, "", "soil 5 3 ", ";", 0, 99);
        number(FIELD, "", "lads ", " 9 9;", 1, 6);
        number(FIELD, "", "lads 6 ", " 9;", 1, 9);
        number(FIELD, "", "lads 6 9 ", ";", 1, 9);
        number(FIELD, "", "sledge ", " 9 99;", 0, 60);
        number(FIELD, "", "sledge 60 ", " 99;", 1, 9);
        number(FIELD, "", "sledge 60 9 ", ";", 1, 99);
        number(FIELD, "", "bar ", ";", 1, 30);
        // The cells of the field that stood before do not count.
        number(FIELD, "field 8 6;", "stone ", " 0 1;", 0, 5);
        number(FIELD, "field 1 1;", "soil 0 ", " 1;", 0, 3);
    }

    private static void numbersOfLaws() {
        number(HARM, "", "", "", 0, 999);
        number(HARM, "", "size*(", ")", 0, 999);
        number(HARM, "", "if[", ",2,3]", 0, 999);
        number(HARM, "", "if[1,", ",3]", 0, 999);
        number(HARM, "", "if[1,2,", "]", 0, 999);
        number(HARM, "", "1%", "", 0, 999);
    }

    private static void numbersOfWorks() {
        for (String word : new String[] {"to ", "lift ", "round "}) {
            number(WORK, "", word, " 3;", 0, 5);
            number(WORK, "", word + "5 ", ";", 0, 3);
            number(WORK, "field 8 6;", word, " 5;", 0, 7);
            number(WORK, "field 8 6;", word + "7 ", ";", 0, 5);
            number(WORK, "field 1 1;", word, " 0;", 0, 0);
            number(WORK, "field 1 1;", word + "0 ", ";", 0, 0);
        }
        number(WORK, "", "again ", "[];", 0, 20);
        number(WORK, "", "again 20[again ", "[winter;];];", 0, 20);
    }

    private static void numbersOfBooks() {
        number(BOOK, "", "", " 3 60;", 0, 5);
        number(BOOK, "", "5 ", " 60;", 0, 3);
        number(BOOK, "", "5 3 ", ";", 0, 60);
        number(BOOK, "field 8 6;", "", " 5 0;", 0, 7);
        number(BOOK, "field 8 6;", "7 ", " 0;", 0, 5);
        number(BOOK, "field 1 1;", "", " 0 0;", 0, 0);
        number(BOOK, "field 1 1;", "0 ", " 0;", 0, 0);
    }

    private static void lastClauseCounts() {
        FieldStones x = Check.field("soil 0 0 99;stone 0 0 3;soil 0 0 0;soil 1 0 0;soil 1 0 99;lads 6 1 9;lads 1 2 3;"
            + "sledge 60 9 99;sledge 0 2 2;bar 30;bar 1;stone 5 0 2;stone 5 0 1;");
        CHECK.is("3: soil, the last", 0, x.cell(0, 0, 0));
        CHECK.is("3: soil of another cell, the last", 99, x.cell(1, 0, 0));
        CHECK.is("3: A 2 and bar 1, the last", 3, x.clear(0));
        CHECK.is("3: K 3, the last: 6 times 6, and 2", 38, x.clear(1));
        CHECK.is("3: one lad, the last: 6 times 5, and 2", 32, x.lifts(5, 0));
        CHECK.is("3: F 2, the last", 2, x.loads(5, 0));
        Check.work(x, "to 0 3;");
        CHECK.is("3: B 0 and P 2, the last", 6, x.sums(0));
    }

    private static void withoutClauses() {
        FieldStones x = Check.field("stone 1 0 4;stone 1 0 5;stone 1 1 4;stone 1 1 4;stone 1 1 4;stone 1 1 1;");
        CHECK.is("3: W without field", 6, x.told(0));
        CHECK.is("3: H without field", 4, x.told(1));
        CHECK.is("3: V without soil", 5, x.cell(5, 3, 0));
        CHECK.is("3: 2 lads of K 1: 2 and 4, halved", 3, x.lifts(1, 0));
        CHECK.is("3: they lift sizes to 4", 1, x.loads(1, 0));
        CHECK.is("3: F 12: three of size 4, no more", 4 + 8 + 16, x.loads(1, 1));
        CHECK.is("3: bar 5", 25, x.clear(1));
        Check.work(x, "to 1 1;");
        CHECK.is("3: B 3 and P 1", 5, x.sums(0));
        CHECK.is("4: damage without a law", 18, x.damage(0, 0, 9));
        CHECK.is("4: rise without a law", 0, x.rises(1, 0));
        FieldStones empty = Check.field("field 1 1;stone 0 0 9;");
        CHECK.is("3: no clause at all", 0, empty.field(0));
        CHECK.is("3: W without field", 6, empty.told(0));
        CHECK.is("3: H without field", 4, empty.told(1));
    }

    private static void howMany() {
        String bars = "bar 1;";
        isFine(FIELD, "", bars.repeat(60));
        isFault(FIELD, "", bars.repeat(61), 3, 360);
        isFault(FIELD, "", bars.repeat(60) + "  bar", 3, 362);
        isFine(FIELD, "", "field 2 2;" + bars.repeat(59));
        isFault(FIELD, "", "field 2 2;" + bars.repeat(60), 3, 10 + 354);
        String stones = "stone 5 3 9;".repeat(30);
        isFine(FIELD, "", stones + bars.repeat(30));
        isFault(FIELD, "", stones + bars.repeat(30) + "soil 0 0 0;", 3, 360 + 180);
        isFault(FIELD, "", stones + bars.repeat(29) + "stone 0 0 1;", 3, 360 + 174);
        isFault(FIELD, "", stones + " stone", 3, 361);
        FieldStones x = new FieldStones();
        CHECK.is("3: 30 stones", 30, Check.field(x, stones));
        CHECK.is("3: 31 stones", -7, Check.field(x, stones + "stone 0 0 1;"));
        CHECK.is("3: a fault leaves the 30", 30, x.told(2));
        CHECK.is("3: numbered from 0 on", 9, x.stone(29, 2));
        String six = "0 0 1;1 0 1;2 0 1;3 0 1;4 0 1;5 0 60;";
        isFine(BOOK, "", six);
        isFine(BOOK, "", six + " ");
        isFault(BOOK, "", six + "0 1 1;", 3, 37);
        isFault(BOOK, "", six + "  5", 3, 39);
        isFault(BOOK, "", six + "0 0 1;", 3, 37);
    }

    private static void deep() {
        for (String open : new String[] {"(", "if[", "if[1,", "if[1,2,"}) {
            String close = open.equals("(") ? ")" : open.equals("if[") ? ",2,3]" : open.equals("if[1,") ? ",3]" : "]";
            isFine(HARM, "", open.repeat(6) + "7" + close.repeat(6));
            isFault(HARM, "", open.repeat(7) + "7" + close.repeat(7), 3, 6 * open.length());
            isFault(HARM, "", open.repeat(6) + " (7", 3, 6 * open.length() + 1);
            isFault(HARM, "", open.repeat(6) + "if", 3, 6 * open.length());
            isFine(HARM, "", "(".repeat(3) + open.repeat(3) + "7" + close.repeat(3) + ")))+((((((1))))))");
        }
        isFine(HARM, "", "if[(((((1))))),(((((2))))),(((((3)))))]");
        isFault(HARM, "", "if[1,((((((2)))))),3]", 3, 10);
        isFault(HARM, "", "if[1,2,((((((3))))))]", 3, 12);
        String open = "again 1[";
        isFine(WORK, "", open.repeat(6) + "winter;" + "];".repeat(6) + open.repeat(6) + "];".repeat(6));
        isFault(WORK, "", open.repeat(7) + "winter;" + "];".repeat(7), 3, 48);
        isFault(WORK, "", open.repeat(6) + "bar; again", 3, 53);
        isFine(WORK, "", open.repeat(5) + "again 0[];again 0[];again 0[];" + "];".repeat(5));
    }

    private static void twice() {
        isFine(BOOK, "", "0 0 1;0 1 1;1 0 1;1 1 1;");
        isFault(BOOK, "", "0 0 1;0 1 1;1 0 1;0 1 1;", 2, 20);
        isFault(BOOK, "", "5 3 0; 5  3 0;", 2, 10);
        isFault(BOOK, "", "0 0 1;0 0 61;", 2, 8);
        isFault(BOOK, "", "0 0 1;0 4 1;", 2, 8);
        FieldStones x = new FieldStones();
        CHECK.is("6: a cell", 1, Check.book(x, "2 2 1;"));
        CHECK.is("6: the same in another book", 1, Check.book(x, "2 2 2;"));
        CHECK.is("6: twice", -8, Check.book(x, "2 2 3;2 2 3;"));
        CHECK.is("6: the same behind a fault", 2, Check.book(x, "2 2 3;2 3 3;"));
    }

    private static void fieldAhead() {
        isFine(FIELD, "", "  field 1 1;");
        isFault(FIELD, "", "soil 0 0 1;field 1 1;", 4, 11);
        isFault(FIELD, "", "field 1 1; field", 4, 11);
        isFault(FIELD, "", "bar 1;field 9 9;", 4, 6);
        isFault(FIELD, "", "bar 1;bar 1;bar 1;field 1 1;", 4, 18);
    }

    private static void ofOneTheLeast() {
        String bars = "bar 1;".repeat(60);
        isFault(FIELD, "", bars + "field 1 1;", 3, 360);
        isFault(FIELD, "", bars + "fields 1 1;", 1, 360);
        isFault(FIELD, "", bars + "9", 1, 360);
        isFault(BOOK, "", "0 0 1;1 0 1;2 0 1;3 0 1;4 0 1;5 0 1;x", 1, 36);
        isFault(BOOK, "", "0 0 1;1 0 1;2 0 1;3 0 1;4 0 1;5 0 1;6 0 1;", 2, 36);
    }

    /** The signs just beside the digits, the small letters and the blank can't stand in a word or number. */
    private static void signsBesideLetters() {
        for (char sign : new char[] {'/', ':', '`', '{', 31, 33, 0, 127, 160, 255}) {
            isFault(FIELD, "", "bar 5" + sign + ";", 1, 5);
            isFault(FIELD, "", "bar" + sign + "5;", 1, 3);
            isFault(FIELD, "", sign + "bar 5;", 1, 0);
            isFault(FIELD, "", "bar 5;" + sign, 1, 6);
            isFault(WORK, "", "winter" + sign + ";", 1, 6);
            isFault(BOOK, "", "0 0 1" + sign + ";", 1, 5);
        }
        isFault(FIELD, "", "bara 5;", 1, 0);
        isFault(FIELD, "", "barz 5;", 1, 0);
        isFault(FIELD, "", "abar 5;", 1, 0);
        isFault(FIELD, "", "zbar 5;", 1, 0);
        isFault(FIELD, "", "barBar 5;", 1, 3);
        isFault(HARM, "", "siz", 1, 0);
        isFault(HARM, "", "sizes", 1, 0);
        isFault(HARM, "", "size`", 1, 4);
        isFault(HARM, "", "size{", 1, 4);
        isFault(HARM, "", "1:", 1, 1);
        isFine(FIELD, "", "bar10;lads1 9 9;soil5 3 99;");
        isFault(FIELD, "", "soil53 99 9;", 2, 4);
        isFine(WORK, "", "to5 3;again9[to0 0;];");
    }

    private static void blanks() {
        isFine(FIELD, "", "   field  2   2  ;   stone 1 1   9 ;  soil 0  0 0 ;   lads  1 1 1 ; sledge 0 1  1;  bar 1 ;    ");
        isFine(HARM, "", "  if  [  1  ,  (  size  )  ,  3  ]  +  2  *  x  /  y  %  all  -  0  ");
        isFine(WORK, "", "  again  2  [  to  1  1  ;  bar  ;  ]  ;  winter  ;  ");
        isFine(BOOK, "", "  1  1  60  ;  0  0  0  ;  ");
        isFine(FIELD, "", "    ");
        isFine(WORK, "", "    ");
        isFine(BOOK, "", "    ");
        isFault(HARM, "", "    ", 1, 4);
        isFault(FIELD, "", "st one 0 0 1;", 1, 0);
        isFault(FIELD, "", "bar 1 0;", 1, 6);
        isFault(HARM, "", "1 0", 1, 2);
        isFault(WORK, "", "win ter;", 1, 0);
        isFault(BOOK, "", "0 0 1 0;", 1, 6);
    }

    /** A text that ends too early has its fault at the length, or where a word begins that is cut. */
    private static void cutShort() {
        cutAnywhere(FIELD, "field 2 1;", -1, 0, 0, 0, 0, 5, 6, 7, 8, 9);
        cutAnywhere(FIELD, "bar 30 ;", -1, 0, 0, 3, 4, 5, 6, 7);
        cutAnywhere(HARM, "if[x,(2),3]", 0, 0, 2, 3, 4, 5, 6, 7, 8, 9, 10);
        cutAnywhere(WORK, "again 2[bar;];", -1, 0, 0, 0, 0, 5, 6, 7, 8, 8, 8, 11, 12, 13);
        cutAnywhere(BOOK, "5 3 60;", -1, 1, 2, 3, 4, 5, 6);
    }

    /** By the bytes that are left: the fault's place, or -1 for a text that is sound. */
    private static void cutAnywhere(int kind, String text, int... places) {
        for (int n = 0; n < text.length(); n++) {
            FieldStones x = new FieldStones();
            Check.feed(x, text);
            int answer = read(x, kind, n);
            CHECK.isTrue(KINDS[kind] + ", the first " + n + " of '" + text + "'",
                places[n] < 0 ? answer >= 0 : answer == -9);
            CHECK.is("7: the first " + n + " of '" + text + "'", places[n], x.fault());
        }
        isFine(kind, "", text);
    }

    private static void bytesOnTheTape() {
        FieldStones x = new FieldStones();
        Check.feed(x, "bar 1;stone 0 0 9;x");
        CHECK.is("3: only the first bytes are read", 0, x.field(6));
        CHECK.is("3: the others are gone, too", 0, x.count(1));
        Check.feed(x, "bar 1;stone 0 0 9;x");
        CHECK.is("3: up to the last clause", 1, x.field(18));
        CHECK.is("3: bar 1", 9, x.clear(0));
        Check.feed(x, "bar 1;stone 0 0 9;x");
        CHECK.is("3: one more", -9, x.field(19));
        Check.feed(x, "bar 30;");
        CHECK.is("3: a number cut by the length", -9, x.field(5));
        CHECK.is("7: at the length", 5, x.fault());
        // Every byte of the five numbers, in its place.
        CHECK.is("2: twenty bytes", 20, x.feed(0x73746f6e, 0x65203520, 0x3320393b, 0x62617220, 0x3330203b));
        CHECK.is("2: stone 5 3 9;bar 30 ;", 1, x.field(20));
        CHECK.is("2: X", 5, x.stone(0, 0));
        CHECK.is("2: Y", 3, x.stone(0, 1));
        CHECK.is("2: bar 30, size 9", 270, x.clear(0));
        for (int i = 1; i <= 29; i++) {
            x.feed(-1, -1, -1, -1, -1);
        }
        CHECK.is("2: 580 bytes", 580, x.count(1));
        CHECK.is("2: 600 bytes", 600, x.feed(-1, -1, -1, -1, -1));
        CHECK.is("2: 620 would be too many", -1, x.feed(0, 0, 0, 0, 0));
        CHECK.is("2: nothing is done", 600, x.count(1));
        CHECK.is("2: a byte is 0 to 255", -9, x.field(600));
        CHECK.is("7: the first byte", 0, x.fault());
        CHECK.is("2: there is room again", 20, x.feed(0, 0, 0, 0, 0));
    }

    private static void longest() {
        FieldStones x = new FieldStones();
        CHECK.is("3: 600 bytes, the last one a ;", 1, Check.field(x, " ".repeat(588) + "stone 5 3 9;"));
        CHECK.is("3: 600 bytes", -9, Check.field(x, " ".repeat(589) + "stone 5 3 9"));
        CHECK.is("7: at the length", 600, x.fault());
        CHECK.is("4: 150 bytes", 1, Check.law(x, 0, " 1" + "+1".repeat(74)));
        CHECK.is("4: all of them count", 75, x.damage(0, 0, 1));
        CHECK.is("4: 150 bytes", -9, Check.law(x, 0, "1" + "+1".repeat(74) + "+"));
        CHECK.is("7: at the length", 150, x.fault());
        CHECK.is("5: 200 bytes", 1, Check.work(x, " ".repeat(193) + "winter;"));
        CHECK.is("5: 200 bytes", -9, Check.work(x, " ".repeat(194) + "winter"));
        CHECK.is("7: at the length", 200, x.fault());
        CHECK.is("5: fifty steps of 4 bytes", 0, Check.work(x, "bar;".repeat(50)));
        CHECK.is("9: fifty refused", 50, x.told(9));
        CHECK.is("6: 100 bytes", 1, Check.book(x, " ".repeat(93) + "5 3 60;"));
        CHECK.is("6: 100 bytes", -9, Check.book(x, " ".repeat(94) + "5 3 60"));
        CHECK.is("7: at the length", 100, x.fault());
        CHECK.is("6: a fault leaves the book", 1, x.told(8));
    }

    private static void latestFault() {
        FieldStones x = new FieldStones();
        CHECK.is("7: NONE without a text", -1, x.fault());
        Check.field(x, "bar 31;");
        CHECK.is("7: of a field", 4, x.fault());
        Check.law(x, 0, "(((1");
        CHECK.is("7: of a law", 4, x.fault());
        Check.law(x, 1, "2*1000");
        CHECK.is("7: of the other law", 2, x.fault());
        Check.work(x, "bar;ba");
        CHECK.is("7: of a work, not its length", 4, x.fault());
        Check.book(x, "7");
        CHECK.is("7: of a book, at its first byte", 0, x.fault());
        CHECK.noArgument("7: an exception", () -> x.book(1));
        CHECK.is("7: an exception leaves it", 0, x.fault());
        x.undo();
        x.image();
        x.restore();
        CHECK.is("7: so do -1, image and restore", 0, x.fault());
        Check.law(x, 1, "1");
        CHECK.is("7: NONE by a sound text", -1, x.fault());
    }

    /** Neither a field that was, nor one with a fault, leaves anything in those that come. */
    private static void nothingOfFieldsBefore() {
        FieldStones x = new FieldStones();
        for (int i = 0; i < 4; i++) {
            CHECK.is("3: two stones", 2, Check.field(x, "field 2 1;stone 0 0 3;stone 1 0 4;soil 0 0 9;lads 1 2 3;sledge 0 2 2;"));
            CHECK.is("3: no damage yet", 0, x.sums(1));
            CHECK.is("3: damage without a law", 6, x.damage(0, 0, 3));
            Check.law(x, 0, "all*10+many");
            CHECK.is("3: all that lie are two", 21, x.damage(0, 0, 3));
            CHECK.is("3: a fault behind three stones", -8, Check.field(x, "stone 0 0 1;stone 0 0 1;stone 1 0 1;bar 31;"));
            CHECK.is("3: all stays", 21, x.damage(0, 0, 3));
            Check.work(x, "bar;again 9[winter;];");
            CHECK.is("13: nine years of 42", 9 * 42, x.sums(1));
            CHECK.is("3: three stones", 3, Check.field(x, "stone 0 0 1;stone 0 0 1;stone 5 3 1;"));
            CHECK.is("3: no damage yet", 0, x.sums(1));
            CHECK.is("3: no soil won", 0, x.sums(2));
            CHECK.is("3: the soil is 5 again", 5, x.cell(0, 0, 0));
            CHECK.is("3: lads, sledge and bar are as without a clause", 2 * 6 + 1, x.clear(2));
            Check.law(x, 0, "all*10+many");
            CHECK.is("3: all that lie are three", 32, x.damage(0, 0, 3));
            Check.work(x, "winter;lift 5 3;");
            CHECK.is("13: one year of 32, 32 and 31", 95, x.sums(1));
        }
    }

    private static void booksBehindFaults() {
        FieldStones x = Check.field("stone 0 0 1;stone 5 0 2;");
        Check.book(x, "0 0 1;");
        CHECK.is("25: the second size fits", 2, x.fits());
        CHECK.is("6: a fault behind three lines", -9, Check.book(x, "1 0 1;2 0 2;3 0 3;x"));
        CHECK.is("6: one line stays", 1, x.told(8));
        CHECK.is("6: it is the same", 2, x.fits());
        CHECK.is("6: two lines", 2, Check.book(x, "0 0 1;5 0 1;"));
        CHECK.is("6: a fault in the first line", -8, Check.book(x, "3 0 61;"));
        CHECK.is("6: two lines stay", 2, x.told(8));
        CHECK.is("6: they are the same", 1, x.fits());
        CHECK.is("6: a fault in the third line", -8, Check.book(x, "5 3 0;4 3 0;5 3 0;"));
        CHECK.is("6: they are the same yet", 1, x.fits());
    }
}
