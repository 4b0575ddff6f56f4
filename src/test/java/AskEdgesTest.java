/** Promises 14 to 27: each bound that the document tells of laws and of the questions, on both its sides. */
public final class AskEdgesTest {
    private static final Check CHECK = new Check();

    public static void main(String[] args) {
        boundsOfDamage();
        boundsOfRises();
        wraps();
        signs();
        ifs();
        damageAsItIsNow();
        risesNextWinter();
        clear();
        stopsBySize();
        stopsByTies();
        stopsInAllCells();
        way();
        heapsByTies();
        heapsInAllCells();
        heapsByYears();
        line();
        lineBySize();
        first();
        mixByHands();
        mixByTies();
        enough();
        enoughOfSixty();
        left();
        fits();
        fitsByLines();
        frost();
        frostOfSixty();
        whatIsNotAsked();
        span();
        sixtyStones();
        yearsOfSixty();
        CHECK.end();
    }

    private static int damageBy(String law, int size) {
        FieldStones x = new FieldStones();
        Check.law(x, 0, law);
        return x.damage(0, 0, size);
    }

    private static int risesBy(String law) {
        FieldStones x = new FieldStones();
        Check.law(x, 1, law);
        return x.rises(0, 0);
    }

    private static void boundsOfDamage() {
        CHECK.is("14: less than 0 is 0", 0, damageBy("0-1", 1));
        CHECK.is("14: 0", 0, damageBy("0", 1));
        CHECK.is("14: 1", 1, damageBy("1", 1));
        CHECK.is("14: 998", 998, damageBy("998", 1));
        CHECK.is("14: 999", 999, damageBy("999", 1));
        CHECK.is("14: more is 999", 999, damageBy("999+1", 1));
        CHECK.is("14: the largest number", 999, damageBy("256*256*256*128-1", 1));
        CHECK.is("14: the least number", 0, damageBy("256*256*256*128", 1));
        CHECK.is("14: size 1", 1, damageBy("size", 1));
        CHECK.is("14: size 9", 9, damageBy("size", 9));
    }

    private static void boundsOfRises() {
        CHECK.is("15: less than 0 is 0", 0, risesBy("0-1"));
        CHECK.is("15: 0", 0, risesBy("0"));
        CHECK.is("15: 1", 1, risesBy("1"));
        CHECK.is("15: 2", 2, risesBy("2"));
        CHECK.is("15: more is 2", 2, risesBy("3"));
        CHECK.is("15: the largest number", 2, risesBy("256*256*256*128-1"));
        CHECK.is("15: the least number", 0, risesBy("256*256*256*128"));
        CHECK.is("15: size is 0", 0, risesBy("size"));
        CHECK.is("15: the year is the one that comes", 1, risesBy("year"));
    }

    /** 32 bits: behind 2147483647 comes what is less than 0, and 4294967296 is 0 again. */
    private static void wraps() {
        CHECK.is("4: the last by +", 1, damageBy("if[256*256*256*128-1+0,1,2]", 1));
        CHECK.is("4: the first behind it", 2, damageBy("if[256*256*256*128-1+1,1,2]", 1));
        CHECK.is("4: the last by *", 1, damageBy("if[256*256*(256*128-1),1,2]", 1));
        CHECK.is("4: the first behind it", 2, damageBy("if[256*256*(256*128),1,2]", 1));
        CHECK.is("4: the last by -", 2, damageBy("if[0-256*256*256*127-256*256*256,1,2]", 1));
        CHECK.is("4: the first behind it", 1, damageBy("if[0-256*256*256*127-256*256*256-1,1,2]", 1));
        CHECK.is("4: 4294967296 is 0", 7, damageBy("7+256*256*256*256", 1));
        CHECK.is("4: 4294967297 is 1", 8, damageBy("7+(256*256*256*256+1)", 1));
        CHECK.is("4: the least by less than nothing is the least", 2, damageBy("if[256*256*256*128/(0-1),1,2]", 1));
        CHECK.is("4: and leaves 0", 7, damageBy("7+256*256*256*128%(0-1)", 1));
    }

    private static void signs() {
        CHECK.is("4: / cuts", 2, damageBy("8/3", 1));
        CHECK.is("4: / of 9", 3, damageBy("9/3", 1));
        CHECK.is("4: / cuts toward 0", 10, damageBy("10+(0-1)/2", 1));
        CHECK.is("4: / cuts toward 0", 10, damageBy("10+1/(0-2)", 1));
        CHECK.is("4: % leaves", 2, damageBy("8%3", 1));
        CHECK.is("4: % of 9", 0, damageBy("9%3", 1));
        CHECK.is("4: % with the sign of what is divided", 8, damageBy("10+(0-8)%3", 1));
        CHECK.is("4: % with the sign of what is divided", 12, damageBy("10+8%(0-3)", 1));
        CHECK.is("4: / by 0", 5, damageBy("5+8/0", 1));
        CHECK.is("4: % by 0", 5, damageBy("5+8%0", 1));
        CHECK.is("4: 0 by 0", 5, damageBy("5+0/0+0%0", 1));
        CHECK.is("4: / by 1", 13, damageBy("5+8/1", 1));
        CHECK.is("4: % by 1", 5, damageBy("5+8%1", 1));
        CHECK.is("4: / by what is 0", 5, damageBy("5+8/x+8%(1-1)", 1));
        CHECK.is("4: from the left", 4, damageBy("16/2/2", 1));
        CHECK.is("4: from the left", 12, damageBy("16-2-2", 1));
        CHECK.is("4: from the left", 6, damageBy("7/2*2", 1));
    }

    private static void ifs() {
        CHECK.is("4: 1 is above 0", 5, damageBy("if[1,5,6]", 1));
        CHECK.is("4: 0 is not", 6, damageBy("if[0,5,6]", 1));
        CHECK.is("4: less is not", 6, damageBy("if[0-1,5,6]", 1));
        CHECK.is("4: within an if", 7, damageBy("if[if[0,1,0],5,if[1,7,8]]", 1));
    }

    private static void damageAsItIsNow() {
        FieldStones x = Check.field("field 8 6;stone 7 5 1;stone 7 5 9;stone 0 0 1;soil 7 5 99;soil 0 0 0;");
        Check.law(x, 0, "many*100+all*10+year");
        CHECK.is("14: were it one of those there or not", 230, x.damage(7, 5, 9));
        CHECK.is("14: where none lies", 30, x.damage(6, 5, 1));
        Check.work(x, "winter;round 7 5;lift 0 0;");
        CHECK.is("14: many and all with those in lost cells, without the sledge", 221, x.damage(7, 5, 5));
        Check.law(x, 0, "x*100+y*10");
        CHECK.is("14: x and y", 750, x.damage(7, 5, 1));
        CHECK.is("14: x and y of the first", 0, x.damage(0, 0, 1));
        Check.law(x, 0, "soil");
        CHECK.is("14: soil 99", 99, x.damage(7, 5, 1));
        CHECK.is("14: soil 0", 0, x.damage(0, 0, 1));
        Check.law(x, 0, "size * 2");
        CHECK.is("14: as without a law", 2, x.damage(7, 5, 1));
    }

    private static void risesNextWinter() {
        FieldStones x = Check.field("field 2 1;stone 1 0 1;");
        Check.law(x, 1, "2-year");
        CHECK.is("15: in the year 1", 1, x.rises(0, 0));
        Check.work(x, "winter;");
        CHECK.is("15: in the year 2", 0, x.rises(0, 0));
        Check.law(x, 1, "all-1");
        CHECK.is("15: by all that lie, 3 of them", 2, x.rises(0, 0));
        Check.work(x, "round 0 0;");
        CHECK.is("15: a lost cell", 0, x.rises(0, 0));
        CHECK.is("15: those in it lie yet", 2, x.rises(1, 0));
        Check.work(x, "lift 1 0;");
        CHECK.is("15: two less", 0, x.rises(1, 0));
    }

    private static void clear() {
        FieldStones x = Check.field("field 8 6;lads 2 8 9;bar 30;stone 0 0 8;stone 0 0 9;stone 7 5 8;stone 7 5 9;stone 0 5 1;");
        CHECK.is("16: size A, X 0", 18 + 8, x.clear(0));
        CHECK.is("16: size A and 1, X 0", 270, x.clear(1));
        CHECK.is("16: size A, X 7", 144 + 8, x.clear(2));
        CHECK.is("16: size A and 1, X 7", 270, x.clear(3));
        CHECK.is("16: no Y", 19, x.clear(4));
        Check.work(x, "lift 0 0;");
        CHECK.is("16: on the sledge", 0, x.clear(0));
        Check.work(x, "wall;");
        CHECK.is("16: in the wall", 0, x.clear(0));
        Check.work(x, "bar;heap;");
        CHECK.is("16: in a heap", 0, x.clear(1));
        FieldStones all = Check.field("field 1 1;lads 1 9 1;bar 1;stone 0 0 9;");
        CHECK.is("16: A 9", 11, all.clear(0));
        FieldStones none = Check.field("field 1 1;lads 1 1 1;bar 1;stone 0 0 1;stone 0 0 2;");
        CHECK.is("16: A 1, size 1", 3, none.clear(0));
        CHECK.is("16: A 1, size 2, bar 1", 2, none.clear(1));
    }

    private static void stopsAre(String what, FieldStones x, int y, int... due) {
        for (int i = 0; i < 3; i++) {
            CHECK.is("17: " + what + ", what " + i, due[i], x.stops(y, i));
        }
    }

    private static void stopsBySize() {
        for (int a = 1; a <= 8; a++) {
            FieldStones x = Check.field("field 3 2;lads 2 " + a + " 1;stone 2 1 " + a + ";stone 0 1 " + (a + 1) + ";");
            stopsAre("size A alone, A " + a, x, 1, 3, 1, 4);
            Check.work(x, "lift 2 1;");
            stopsAre("size A and 1 alone, A " + a, x, 1, 0, 0, 0);
        }
        FieldStones all = Check.field("field 3 2;lads 2 9 1;stone 2 1 9;");
        stopsAre("A 9", all, 1, 3, 1, 4);
        stopsAre("no stones in the row", all, 0, 0, 0, 0);
        Check.work(all, "round 2 1;");
        stopsAre("a lost cell's", all, 1, 0, 0, 0);
    }

    private static void stopsByTies() {
        String apart = "field 3 1;stone 0 0 1;stone 2 0 1;";
        stopsAre("B 3: two stops", Check.field(apart + "sledge 3 1 1;"), 0, 6, 2, 5);
        stopsAre("B 4: one or two, the fewest, the least bits", Check.field(apart + "sledge 4 1 1;"), 0, 8, 1, 1);
        stopsAre("B 5: one", Check.field(apart + "sledge 5 1 1;"), 0, 9, 1, 1);
        String three = "field 4 1;stone 1 0 1;stone 2 0 1;stone 3 0 1;sledge 2 1 1;";
        // Two stops: 4, and one stone carried a cell; three: 6; one: 2, and two stones carried.
        stopsAre("B 2: all alike, the fewest", Check.field(three), 0, 6, 1, 4);
        stopsAre("B 1: three stops", Check.field(three + "sledge 1 1 1;"), 0, 3, 3, 14);
        stopsAre("K 9: three stops", Check.field(three + "lads 2 4 9;sledge 17 1 1;"), 0, 51, 3, 14);
        stopsAre("K 9: alike, the fewest", Check.field(three + "lads 2 4 9;sledge 18 1 1;"), 0, 54, 1, 4);
        String four = "field 4 1;stone 0 0 1;stone 1 0 1;stone 2 0 1;stone 3 0 1;sledge 3 1 1;";
        // Two stops, each with a neighbour: 6 and 4; the least bits are 0 and 2.
        stopsAre("of two alike the least bits", Check.field(four), 0, 10, 2, 5);
    }

    private static void stopsInAllCells() {
        StringBuilder row = new StringBuilder("field 8 6;");
        for (int i = 0; i < 8; i++) {
            row.append("stone ").append(i).append(" 5 1;");
        }
        stopsAre("B 0", Check.field(row + "sledge 0 1 1;"), 5, 0, 8, 255);
        stopsAre("B 60", Check.field(row + "sledge 60 1 1;"), 5, 60 + 2 * 16, 1, 8);
        stopsAre("one cell", Check.field("field 1 1;stone 0 0 1;sledge 60 1 1;"), 0, 60, 1, 1);
        stopsAre("the last cell", Check.field("field 8 6;stone 7 5 1;sledge 0 1 1;"), 5, 0, 1, 128);
    }

    private static void wayIs(String what, FieldStones x, long minutes, long rows) {
        CHECK.is("18: " + what + ": minutes", minutes, x.way(0));
        CHECK.is("18: " + what + ": rows", rows, x.way(1));
    }

    private static void way() {
        wayIs("no stones", Check.field("field 8 6;sledge 1 9 1;"), 0, 0);
        wayIs("one cell", Check.field("field 1 1;stone 0 0 1;sledge 1 9 1;"), 0, 0);
        wayIs("two cells", Check.field("field 2 1;stone 0 0 1;sledge 1 9 1;"), 9, 0);
        wayIs("the last row", Check.field("field 8 6;stone 0 5 1;sledge 1 9 1;"), 9 * 12, 5);
        wayIs("one column, the last row", Check.field("field 1 6;stone 0 5 1;"), 5, 5);
        wayIs("one column, all rows", Check.field("field 1 6;stone 0 5 1;stone 0 4 1;stone 0 3 1;stone 0 2 1;stone 0 1 1;"
            + "stone 0 0 1;"), 5, 12345);
        wayIs("rows 1 and 2 of 3", Check.field("field 3 3;stone 0 2 1;stone 2 1 1;"), 1 + 2 + 1 + 2, 18);
        wayIs("rows 0 and 5", Check.field("field 2 6;stone 1 5 9;stone 1 0 9;"), 1 + 5 + 1, 11);
        FieldStones lost = Check.field("field 2 3;stone 0 0 1;stone 1 1 1;stone 0 2 1;");
        wayIs("three rows", lost, 1 + 1 + 1 + 1 + 1, 72);
        Check.work(lost, "round 1 1;");
        wayIs("without the lost one", lost, 1 + 2 + 1, 8);
        Check.work(lost, "lift 0 2;to 1 2;");
        wayIs("from 0 0, wherever the sledge is", lost, 1, 0);
        Check.work(lost, "round 0 0;");
        wayIs("none lies elsewhere", lost, 0, 0);
    }

    private static void heapsAre(String what, FieldStones x, int years, int cost, int cells) {
        CHECK.is("19: " + what + ": cost", cost, x.heaps(years, 0));
        CHECK.is("19: " + what + ": cells", cells, x.heaps(years, 1));
    }

    private static void heapsByTies() {
        String one = "field 4 1;stone 3 0 1;";
        heapsAre("a heap as dear as none", Check.field(one + "soil 3 0 4;"), 1, 4, 0);
        heapsAre("a heap less dear than none", Check.field(one + "soil 3 0 3;"), 1, 3, 4);
        heapsAre("a heap dearer than none", Check.field(one), 1, 4, 0);
        String two = "field 4 1;stone 3 0 1;stone 2 0 9;sledge 5 5 1;";
        heapsAre("two heaps as dear as one, the first cell", Check.field(two), 1, 10, 3);
        heapsAre("two heaps less dear", Check.field(two + "soil 2 0 4;soil 3 0 4;"), 1, 8, 3 * 64 + 4);
        heapsAre("the second cell less dear", Check.field(two + "soil 3 0 4;"), 1, 9, 4);
        // A stone in 1 0 is as far from the wall as from a heap in 3 0.
        heapsAre("whichever is least far", Check.field("field 4 1;stone 1 0 1;stone 3 0 1;soil 1 0 9;soil 3 0 0;"), 60, 2, 4);
    }

    private static void heapsInAllCells() {
        heapsAre("the first cell", Check.field("field 8 6;stone 0 0 1;"), 0, 0, 1);
        heapsAre("the last cell", Check.field("field 8 6;stone 7 5 1;"), 0, 0, 48);
        heapsAre("the last two", Check.field("field 8 6;stone 7 5 1;stone 6 5 1;"), 0, 0, 47 * 64 + 48);
        heapsAre("no third one", Check.field("field 8 6;stone 7 5 1;stone 7 3 1;stone 7 1 1;"), 0, 2, 16 * 64 + 32);
        heapsAre("pairs alike: the first cells", Check.field("field 8 6;stone 6 0 1;stone 7 0 1;stone 6 5 1;stone 7 5 1;"
            + "sledge 1 3 1;"), 0, 6, 7 * 64 + 47);
        FieldStones lost = Check.field("field 3 1;stone 2 0 1;stone 1 0 1;");
        Check.work(lost, "round 0 0;lift 2 0;to 2 0;");
        heapsAre("where none lies any more", lost, 0, 0, 2);
        Check.work(lost, "round 1 0;");
        heapsAre("the stone of a lost cell is not asked", lost, 0, 0, 0);
    }

    private static void heapsByYears() {
        FieldStones x = Check.field("field 8 1;" + "stone 7 0 1;".repeat(30) + "soil 7 0 99;sledge 1 9 1;");
        heapsAre("no years", x, 0, 0, 8);
        heapsAre("one year", x, 1, 99, 8);
        // A heap in 6 0 takes 30 times 9 minutes, and 5 pence a year.
        heapsAre("two years", x, 2, 198, 8);
        heapsAre("three years", x, 3, 270 + 15, 7);
        heapsAre("59 years", x, 59, 270 + 295, 7);
        heapsAre("60 years", x, 60, 270 + 300, 7);
    }

    private static void lineIs(String what, FieldStones x, int years, int size, int cost) {
        CHECK.is("20: " + what + ": size", size, x.line(years, 0));
        CHECK.is("20: " + what + ": cost", cost, x.line(years, 1));
    }

    private static void line() {
        lineIs("no stones", new FieldStones(), 60, 1, 0);
        FieldStones x = Check.field("field 1 1;stone 0 0 1;");
        Check.law(x, 0, "1");
        lineIs("no years", x, 0, 2, 0);
        lineIs("two years: left", x, 2, 2, 2);
        lineIs("three years: alike, the least", x, 3, 1, 3);
        lineIs("four years: cleared", x, 4, 1, 3);
        lineIs("60 years: cleared", x, 60, 1, 3);
        Check.law(x, 0, "0");
        lineIs("60 years for nothing", x, 60, 2, 0);
        Check.work(x, "round 0 0;");
        lineIs("a lost cell's stone is not asked", x, 60, 1, 0);
    }

    private static void lineBySize() {
        FieldStones x = Check.field("field 1 1;stone 0 0 9;");
        Check.law(x, 0, "44");
        lineIs("size 9 left", x, 1, 10, 44);
        Check.law(x, 0, "45");
        lineIs("size 9: alike, the least", x, 1, 1, 45);
        Check.law(x, 0, "46");
        lineIs("size 9 cleared", x, 1, 1, 45);
        FieldStones two = Check.field("field 1 1;stone 0 0 9;stone 0 0 8;bar 1;");
        Check.law(two, 0, "if[size-8,10,7]");
        lineIs("9 cleared, 8 left", two, 1, 9, 9 + 7);
        Check.law(two, 0, "if[size-8,10,8]");
        lineIs("8 alike: all cleared", two, 1, 1, 9 + 8);
        Check.law(two, 0, "if[size-8,8,7]");
        lineIs("both left", two, 1, 10, 15);
    }

    private static void firstIs(String what, FieldStones x, int minutes, long soil, long spent, long bits) {
        CHECK.is("21: " + what + ": soil", soil, x.first(minutes, 0));
        CHECK.is("21: " + what + ": minutes", spent, x.first(minutes, 1));
        CHECK.is("21: " + what + ": bits", bits, x.first(minutes, 2));
    }

    private static void first() {
        FieldStones x = Check.field("field 8 6;stone 0 0 1;stone 7 5 1;soil 0 0 1;soil 7 5 99;");
        firstIs("no minutes", x, 0, 0, 0, 0);
        firstIs("one too few for the first cell", x, 2, 0, 0, 0);
        firstIs("just the first cell", x, 3, 1, 3, 1);
        firstIs("one too few for the last cell", x, 16, 1, 3, 1);
        firstIs("just the last cell", x, 17, 99, 17, 1L << 47);
        firstIs("one too few for both", x, 19, 99, 17, 1L << 47);
        firstIs("just both", x, 20, 100, 20, 1L << 47 | 1);
        firstIs("999 minutes", x, 999, 100, 20, 1L << 47 | 1);
        Check.work(x, "round 7 5;");
        firstIs("not a lost cell", x, 999, 1, 3, 1);
        Check.work(x, "lift 0 0;");
        firstIs("none lies", x, 999, 0, 0, 0);
        FieldStones alike = Check.field("field 2 2;stone 1 0 1;stone 0 1 1;stone 0 1 1;stone 1 1 1;soil 0 1 5;");
        // 1 0 takes 5 minutes, 0 1 takes 6, 1 1 takes 5: each has 5 pence of soil.
        firstIs("the fewest minutes, then the least bits", alike, 9, 5, 5, 2);
        firstIs("the fewest minutes, though not the least bits", alike, 15, 10, 10, 2 | 1 << 9);
        firstIs("all", alike, 16, 15, 16, 2 | 1 << 8 | 1 << 9);
        FieldStones large = Check.field("field 1 1;bar 27;stone 0 0 9;bar 27;" + "stone 0 0 9;".repeat(3) + "stone 0 0 1;"
            + "stone 0 0 1;stone 0 0 1;stone 0 0 1;stone 0 0 1;stone 0 0 1;stone 0 0 1;");
        // Four times 243, and seven times 3.
        firstIs("993 minutes", large, 993, 5, 993, 1);
        firstIs("992 minutes", large, 992, 0, 0, 0);
    }

    private static void mixIs(String what, FieldStones x, int minutes, int lad, int horse, int... due) {
        for (int i = 0; i < 3; i++) {
            CHECK.is("22: " + what + ", what " + i, due[i], x.mix(minutes, lad, horse, i));
        }
    }

    private static void mixByHands() {
        FieldStones x = Check.field("field 1 1;" + "stone 0 0 1;".repeat(5));
        mixIs("15 in a minute: all hands", x, 1, 1, 1, 9, 6, 3);
        mixIs("15 by one lad", x, 15, 1, 99, 15, 1, 0);
        mixIs("15 in 14 minutes: two lads take 8, three 5", x, 14, 1, 99, 15, 3, 0);
        mixIs("no pence: by the fewest lads, then horses", x, 9999, 0, 0, 0, 0, 1);
        mixIs("no pence, but few minutes", x, 4, 0, 0, 0, 0, 2);
        Check.field(x, "field 1 1;" + "stone 0 0 1;".repeat(4) + "stone 0 0 2;");
        mixIs("16 in a minute: by none", x, 1, 1, 1, -1, -1, -1);
        mixIs("16 in a minute, for nothing: by none", x, 1, 0, 0, -1, -1, -1);
        mixIs("16 in two minutes: three horses", x, 2, 1, 1, 6, 0, 3);
        Check.field(x, "field 1 1;");
        mixIs("nothing to clear: none", x, 1, 99, 99, 0, 0, 0);
        Check.field(x, "field 1 1;stone 0 0 1;");
        mixIs("3 by a horse in a minute", x, 1, 99, 99, 99, 0, 1);
        mixIs("3 by three lads in a minute", x, 1, 1, 99, 3, 3, 0);
        Check.work(x, "round 0 0;");
        mixIs("a lost cell's stone is not asked", x, 1, 99, 99, 0, 0, 0);
    }

    private static void mixByTies() {
        FieldStones x = Check.field("field 1 1;stone 0 0 4;");
        // 6 minutes: a lad at 1 takes 6, two take 3 each, three 2 each, six 1 each: all 6 pence; a horse takes 2.
        mixIs("as many pence by 1, 2, 3 and 6 lads", x, 6, 1, 4, 6, 1, 0);
        mixIs("a horse as dear: the fewest lads", x, 6, 1, 3, 6, 0, 1);
        mixIs("a horse less dear", x, 6, 1, 2, 4, 0, 1);
        mixIs("one minute: two horses", x, 1, 1, 3, 6, 0, 2);
        mixIs("one minute: six lads", x, 1, 1, 4, 6, 6, 0);
        // Cut upward: 7 minutes by 3 hands are 3.
        FieldStones seven = Check.field("field 1 1;stone 0 0 1;stone 0 0 2;");
        mixIs("7 by a horse", seven, 3, 99, 5, 15, 0, 1);
        mixIs("7 by a horse takes 3, not 2: three horses", seven, 2, 99, 5, 15, 0, 3);
    }

    private static void enough() {
        FieldStones x = Check.field("field 1 1;stone 0 0 4;stone 0 0 4;");
        CHECK.is("23: two lie, as told", 1, x.enough(0, 2));
        CHECK.is("23: two lie, one told", -1, x.enough(0, 1));
        CHECK.is("23: just one a year", 1, x.enough(6, 1));
        CHECK.is("23: one minute too few", -1, x.enough(5, 1));
        CHECK.is("23: the second in the second year", 2, x.enough(11, 0));
        CHECK.is("23: just both", 1, x.enough(12, 0));
        Check.work(x, "winter;winter;");
        CHECK.is("23: counted from 1, whatever the year", 2, x.enough(6, 0));
        CHECK.is("23: none lies in no stones", 1, new FieldStones().enough(0, 0));
        FieldStones thirty = Check.field("field 1 1;" + "stone 0 0 1;".repeat(30));
        CHECK.is("23: the 30th year", 30, thirty.enough(3, 0));
        Check.law(thirty, 1, "if[year-1,0,1]");
        // One of size 8 rises in the first winter, too large for 3 minutes.
        CHECK.is("23: no 31st year", -1, thirty.enough(3, 0));
        CHECK.is("23: but for the one", 30, thirty.enough(3, 1));
        CHECK.is("23: 9999 minutes, behind the first clearing", 1, thirty.enough(9999, 0));
    }

    private static void enoughOfSixty() {
        FieldStones x = Check.field("field 1 1;" + "stone 0 0 1;".repeat(30));
        Check.law(x, 1, "2");
        Check.work(x, "again 15[winter;];");
        CHECK.is("23: sixty lie, sixty told", 1, x.enough(0, 60));
        CHECK.is("23: sixty lie, 59 told", -1, x.enough(0, 59));
        CHECK.is("23: none rises beyond 60, so none is left", 1, x.enough(9999, 0));
        CHECK.is("24: sixty lie", 60, x.left(0, 1));
        CHECK.is("24: sixty lie in the 30th year", 60, x.left(0, 30));
    }

    private static void left() {
        FieldStones x = Check.field("field 2 1;stone 0 0 4;stone 0 0 4;stone 1 0 3;");
        CHECK.is("24: the largest first, by number, then the last: 6, 6 and 7", 0, x.left(19, 1));
        CHECK.is("24: one minute too few for the last", 1, x.left(18, 1));
        CHECK.is("24: one too long is left out, the smaller one not", 1, x.left(13, 1));
        CHECK.is("24: which is longer", 2, x.left(11, 1));
        CHECK.is("24: another one by the second year", 1, x.left(11, 2));
        CHECK.is("24: all by the third", 0, x.left(11, 3));
        CHECK.is("24: one too long for ever", 1, x.left(6, 30));
        Check.law(x, 1, "x*(2-year)");
        CHECK.is("24: none rises behind the first clearing", 3, x.left(0, 1));
        CHECK.is("24: one rises in the first winter", 4, x.left(0, 2));
        CHECK.is("24: none in the others", 4, x.left(0, 30));
    }

    private static void fits() {
        FieldStones x = Check.field("field 1 1;stone 0 0 9;");
        CHECK.is("25: without a book", 511, x.fits());
        Check.book(x, "0 0 1;");
        CHECK.is("25: size 9 by all", 511, x.fits());
        Check.book(x, "0 0 0;");
        CHECK.is("25: size 9 by none", 0, x.fits());
        Check.work(x, "bar;");
        CHECK.is("25: none lies, none told", 511, x.fits());
        Check.book(x, "0 0 1;");
        CHECK.is("25: none lies, one told", 0, x.fits());
        Check.field(x, "field 1 1;stone 0 0 1;");
        Check.book(x, "0 0 1;");
        CHECK.is("25: size 1 by size 1", 1, x.fits());
        Check.book(x, "0 0 0;");
        CHECK.is("25: size 1 by all others", 510, x.fits());
        Check.work(x, "round 0 0;");
        CHECK.is("25: a lost cell's stone is not asked", 511, x.fits());
        Check.field(x, "field 1 1;" + "stone 0 0 1;".repeat(30));
        Check.law(x, 1, "2");
        Check.work(x, "again 15[winter;];");
        Check.book(x, "0 0 60;");
        CHECK.is("25: sixty", 1, x.fits());
        Check.book(x, "0 0 59;");
        CHECK.is("25: not 59", 0, x.fits());
    }

    private static void fitsByLines() {
        FieldStones x = Check.field("field 8 1;stone 2 0 5;stone 3 0 5;stone 4 0 3;");
        Check.book(x, "0 0 1;5 0 2;");
        CHECK.is("25: 2 0 is nearer to the first, 3 0 and 4 0 to the second", 7, x.fits());
        Check.book(x, "0 0 1;6 0 2;");
        CHECK.is("25: 3 0 is as far from both, the first line", 0, x.fits());
        Check.book(x, "0 0 2;6 0 1;");
        CHECK.is("25: so the first has two", 7, x.fits());
        Check.book(x, "6 0 2;0 0 1;");
        CHECK.is("25: the other one first", 7, x.fits());
        Check.book(x, "6 0 1;0 0 1;");
        CHECK.is("25: without the smallest", 16 + 8, x.fits());
        Check.book(x, "0 0 0;1 0 0;2 0 1;3 0 1;4 0 1;7 0 0;");
        CHECK.is("25: six lines", 7, x.fits());
        Check.book(x, "0 0 0;1 0 0;2 0 1;3 0 1;4 0 1;7 0 1;");
        CHECK.is("25: the sixth has one too few", 0, x.fits());
    }

    private static void frost() {
        FieldStones x = Check.field("field 1 1;");
        CHECK.is("26: by seed 0 the draw is 0: not below 0", 0, x.frost(0, 0, 1, 0));
        CHECK.is("26: below 1", 1, x.frost(0, 1, 1, 0));
        // By seed 5 the draw is 15.
        CHECK.is("26: 15 is not below 15", 0, x.frost(5, 15, 1, 0));
        CHECK.is("26: but below 16", 1, x.frost(5, 16, 1, 0));
        CHECK.is("26: one winter", 1, x.frost(7, 16, 1, 0));
        CHECK.is("26: twenty winters", 20, x.frost(7, 16, 20, 0));
        CHECK.is("26: all of size 1", 20, x.frost(7, 16, 20, 1));
        CHECK.is("26: damage of 0 and 1 to 19 of size 1", 2 * 190, x.frost(7, 16, 20, 2));
        CHECK.is("26: no damage ahead of the first winter", 0, x.frost(7, 16, 1, 2));
        Check.law(x, 0, "999+year");
        CHECK.is("26: 999 each", 999 * 3, x.frost(7, 16, 3, 2));
        Check.work(x, "round 0 0;");
        CHECK.is("26: nothing comes in a lost cell", 0, x.frost(7, 16, 20, 0));
    }

    private static void frostOfSixty() {
        FieldStones x = Check.field("field 2 1;" + "stone 0 0 1;".repeat(29));
        Check.law(x, 1, "if[x,0,2]");
        Check.work(x, "again 15[winter;];");
        CHECK.is("9: 59", 59, x.told(2));
        int sizes = x.cell(0, 0, 2);
        CHECK.is("26: the law's one comes ahead, and none beyond 60", 60, x.frost(0, 16, 1, 0));
        CHECK.is("26: of size 1 and 112 by 9", sizes + 5, x.frost(0, 16, 1, 1));
        Check.law(x, 1, "0");
        CHECK.is("26: the first of two by frost", 60, x.frost(0, 16, 1, 0));
        CHECK.is("26: of size 1", sizes + 1, x.frost(0, 16, 1, 1));
        CHECK.is("26: none below 0", 59, x.frost(0, 0, 20, 0));
        // By seed 0 the draws are 0 and 12.
        CHECK.is("26: one of two", 60, x.frost(0, 12, 1, 0));
        Check.work(x, "lift 0 0;");
        CHECK.is("26: those on the sledge are of the 60", 60 - x.told(4), x.frost(0, 16, 20, 0));
    }

    private static void span() {
        FieldStones x = Check.field("field 1 1;");
        // The draws by the seeds 0, 1, 2, 3 and 4: bits 16 to 30 of 12345, 1103527590, 2207042835, 3310558080, 119106029.
        CHECK.is("27: one seed, draw 0", 1, x.span(0, 1, 1, 1, 0, 1));
        CHECK.is("27: no seed more", 1, x.span(0, 1, 1, 1, 0, 0));
        CHECK.is("27: the second seed's draw is 6", 0, x.span(0, 2, 1, 1, 0, 0));
        CHECK.is("27: below 6 it is none", 0, x.span(1, 1, 6, 1, 0, 1));
        CHECK.is("27: below 7 it is one", 1, x.span(1, 1, 7, 1, 0, 1));
        CHECK.is("27: of 20 none has more than 1", 20, x.span(0, 20, 16, 1, 1, 2));
        CHECK.is("27: of 20 all have more than 0", 0, x.span(0, 20, 16, 1, 0, 2));
        CHECK.is("27: no more than 20 in 20 winters", 20, x.span(0, 20, 16, 20, 20, 2));
        CHECK.is("27: but more than 19", 0, x.span(0, 20, 16, 20, 19, 2));
        CHECK.is("27: the fewest", 20, x.span(0, 20, 16, 20, 0, 0));
        CHECK.is("27: the most", 20, x.span(0, 20, 16, 20, 60, 1));
    }

    /** One on the sledge, one in the wall, two in a heap, one in a lost cell: only what lies in 0 1 is asked. */
    private static void whatIsNotAsked() {
        FieldStones x = Check.field("field 3 2;stone 0 0 1;stone 1 0 2;stone 2 0 2;stone 2 1 3;stone 1 1 9;stone 0 1 4;");
        Check.work(x, "lift 0 0;wall;lift 1 0;to 2 0;heap;lift 2 1;round 1 1;");
        CHECK.is("9: two lie", 2, x.told(3));
        CHECK.is("9: on the sledge", 1, x.told(4));
        CHECK.is("9: in the wall", 1, x.told(5));
        CHECK.is("9: in a heap", 2, x.told(6));
        CHECK.is("26: how many lie", 1, x.frost(5, 0, 1, 0));
        CHECK.is("26: all their sizes", 4, x.frost(5, 0, 1, 1));
        CHECK.is("26: damage", 8, x.frost(5, 0, 1, 2));
        CHECK.is("27: how many lie", 1, x.span(5, 2, 0, 1, 1, 1));
        CHECK.is("24: how many lie", 1, x.left(0, 1));
        CHECK.is("23: the one is too long", -1, x.enough(5, 0));
        CHECK.is("23: the one is cleared", 1, x.enough(6, 0));
        CHECK.is("22: the one is cleared", 6, x.mix(6, 1, 99, 0));
        CHECK.is("21: its cell", 1 << 8, x.first(999, 2));
        CHECK.is("20: its clearing", 6, x.line(60, 1));
        CHECK.is("19: from there to the wall", 1, x.heaps(1, 0));
        CHECK.is("18: its row", 1, x.way(1));
        CHECK.is("17: its cell", 1, x.stops(1, 2));
        CHECK.is("17: none in the other row", 0, x.stops(0, 1));
        Check.book(x, "0 1 1;");
        CHECK.is("25: as large as it is", 1 + 2 + 4 + 8, x.fits());
    }

    /**
     * Thirty of size 1, and thirty that rose: 8 9, 6 7, 4 5, 2 3, 9 1, 7 8, 5 6, 3 4, 1 2, 8 9, 6 7, 4 5, 2 3, 9 1, 7 8.
     * All sizes are 189. The lads clear 42 stones (84 minutes, and their sizes, 60), the bar 18 of 129 together.
     */
    private static FieldStones sixty() {
        FieldStones x = Check.field("field 1 1;" + "stone 0 0 1;".repeat(30));
        Check.law(x, 1, "2");
        Check.work(x, "again 15[winter;];");
        return x;
    }

    private static final int SIXTY_CLEARED = 84 + 60 + 5 * 129;

    private static void sixtyStones() {
        FieldStones x = sixty();
        CHECK.is("11: sixty lie", 60, x.cell(0, 0, 1));
        CHECK.is("11: all their sizes", 189, x.cell(0, 0, 2));
        stopsAre("sixty", x, 0, 3, 1, 1);
        wayIs("sixty", x, 0, 0);
        heapsAre("sixty, no years", x, 0, 0, 1);
        heapsAre("sixty, 11 years", x, 11, 55, 1);
        heapsAre("sixty, 12 years", x, 12, 60, 0);
        heapsAre("sixty, 60 years", x, 60, 60, 0);
        lineIs("sixty, no years", x, 0, 10, 0);
        lineIs("sixty, 60 years", x, 60, 1, SIXTY_CLEARED);
        firstIs("sixty", x, SIXTY_CLEARED, 5, SIXTY_CLEARED, 1);
        firstIs("sixty, one minute too few", x, SIXTY_CLEARED - 1, 0, 0, 0);
        mixIs("sixty by a lad", x, SIXTY_CLEARED, 1, 99, SIXTY_CLEARED, 1, 0);
        mixIs("sixty by all hands", x, 53, 1, 1, 53 * 9, 6, 3);
        mixIs("sixty in too few minutes", x, 52, 1, 1, -1, -1, -1);
        CHECK.is("28: the largest", 31, x.chosen(0));
        CHECK.is("28: the nearest", 0, x.chosen(1));
        CHECK.is("31: stoniest", 0, x.stoniest());
        CHECK.is("30: twelve of size 1", (1 << 12) - 1, x.loads(0, 0));
        CHECK.is("29: their sizes by two", 6, x.lifts(0, 0));
    }

    private static void yearsOfSixty() {
        FieldStones x = sixty();
        CHECK.is("23: all in a year", 1, x.enough(SIXTY_CLEARED, 0));
        CHECK.is("23: all but one", 1, x.enough(SIXTY_CLEARED - 1, 1));
        CHECK.is("23: which takes another year", 2, x.enough(SIXTY_CLEARED - 1, 0));
        CHECK.is("24: one is left", 1, x.left(SIXTY_CLEARED - 1, 1));
        CHECK.is("24: none is left", 0, x.left(SIXTY_CLEARED, 1));
        CHECK.is("26: none beyond 60", 60, x.frost(0, 16, 20, 0));
        CHECK.is("26: so the sizes stay", 189, x.frost(0, 16, 20, 1));
        CHECK.is("26: damage of 20 years", 20 * 378, x.frost(0, 16, 20, 2));
        CHECK.is("27: the fewest", 60, x.span(0, 20, 16, 20, 60, 0));
        CHECK.is("27: the most", 60, x.span(0, 20, 16, 20, 60, 1));
        CHECK.is("27: no more than 60", 20, x.span(0, 20, 16, 20, 60, 2));
        CHECK.is("27: more than 59", 0, x.span(0, 20, 16, 20, 59, 2));
        Check.law(x, 0, "all*10+many");
        CHECK.is("14: all and many", 660, x.damage(0, 0, 1));
        int before = x.sums(1);
        Check.work(x, "winter;");
        CHECK.is("13: damage of sixty", 60 * 660, x.sums(1) - before);
        Check.law(x, 0, "999");
        Check.work(x, "winter;");
        CHECK.is("13: the most damage of a year", 60 * 660 + 60 * 999, x.sums(1) - before);
    }
}
