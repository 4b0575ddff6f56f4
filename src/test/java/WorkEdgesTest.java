/** Promises 5, 9 to 13 and 28 to 32: each bound that part 2 tells of the steps, on both its sides. */
public final class WorkEdgesTest {
    private static final Check CHECK = new Check();

    public static void main(String[] args) {
        drives();
        whatLadsLift();
        whatTheSledgeHolds();
        cutUpward();
        howFarLiftsGo();
        nothingToLift();
        bars();
        whatTheSledgeHoldsByBar();
        walls();
        nothingForTheWall();
        heaps();
        rounds();
        winters();
        sixtyStones();
        fiftyNineStones();
        threeHundredSteps();
        threeHundredWithAgains();
        timesOfAgains();
        bitsOfLoads();
        choices();
        cellsToldOf();
        CHECK.end();
    }

    /** One step done: by how many minutes. */
    private static void takes(String what, FieldStones x, String step, int minutes) {
        int before = x.sums(0);
        CHECK.is("5: " + what + ": done", 1, Check.work(x, step));
        CHECK.is("13: " + what + ": minutes", minutes, x.sums(0) - before);
        CHECK.is("9: " + what + ": none refused", 0, x.told(9));
    }

    /** One step refused: it changes nothing. */
    private static void isRefused(String what, FieldStones x, String step) {
        String before = Tale.ofWork(x);
        CHECK.is("5: " + what + ": not done", 0, Check.work(x, step));
        CHECK.is("9: " + what + ": refused", 1, x.told(9));
        CHECK.isTrue("5: " + what + ": changes nothing", before.equals(Tale.ofWork(x)));
    }

    private static void drives() {
        FieldStones x = Check.field("field 2 2;sledge 0 1 1;");
        isRefused("to 0 0 at first", x, "to 0 0;");
        takes("one cell by X, B 0", x, "to 1 0;", 1);
        isRefused("to where it is", x, "to 1 0;");
        takes("one cell by Y", x, "to 1 1;", 1);
        takes("two cells back", x, "to 0 0;", 2);
        FieldStones large = Check.field("field 8 6;sledge 60 9 99;");
        takes("as far as can be, B 60 and P 9", large, "to 7 5;", 60 + 9 * 12);
        CHECK.is("12: X", 7, large.sledge(0));
        CHECK.is("12: Y", 5, large.sledge(1));
        takes("down to X 0", large, "to 0 5;", 60 + 9 * 7);
        takes("up to Y 0", large, "to 0 0;", 60 + 9 * 5);
    }

    private static void whatLadsLift() {
        for (int a = 1; a <= 8; a++) {
            FieldStones x = Check.field("field 2 1;lads 2 " + a + " 1;stone 0 0 " + (a + 1) + ";stone 0 0 " + a + ";");
            CHECK.is("30: of sizes A and A and 1, A " + a, 2, x.loads(0, 0));
            takes("lift of size A " + a, x, "lift 0 0;", (a + 1) / 2);
            CHECK.is("10: the larger one is left there", 0, x.stone(0, 4));
            CHECK.is("10: the other one is lifted", 1, x.stone(1, 4));
            isRefused("the larger one alone", x, "lift 0 0;");
            CHECK.is("29: it would be refused", -1, x.lifts(0, 0));
        }
        FieldStones x = Check.field("field 1 1;lads 1 9 1;stone 0 0 9;");
        takes("lift of size 9 by A 9", x, "lift 0 0;", 9);
    }

    private static void whatTheSledgeHolds() {
        String stones = "field 2 1;lads 1 9 1;stone 0 0 9;stone 0 0 1;";
        FieldStones x = Check.field(stones + "sledge 1 1 10;");
        CHECK.is("30: F 10 holds 9 and 1", 3, x.loads(0, 0));
        x = Check.field(stones + "sledge 1 1 9;");
        CHECK.is("30: F 9 holds 9", 1, x.loads(0, 0));
        takes("9 alone", x, "lift 0 0;", 9);
        CHECK.is("12: full", 9, x.sledge(2));
        CHECK.is("30: nothing more", 0, x.loads(0, 0));
        isRefused("a full sledge", x, "lift 0 0;");
        x = Check.field(stones + "sledge 1 1 8;");
        CHECK.is("30: F 8 holds 1", 2, x.loads(0, 0));
        takes("1 alone", x, "lift 0 0;", 1);
        CHECK.is("30: 9 is too much with it", 0, x.loads(0, 0));
        x = Check.field("field 1 1;sledge 1 1 1;lads 1 9 1;stone 0 0 2;stone 0 0 1;stone 0 0 1;");
        CHECK.is("30: F 1 holds one of size 1, the first", 2, x.loads(0, 0));
        takes("the first of size 1", x, "lift 0 0;", 1);
        isRefused("the second one", x, "lift 0 0;");
        x = Check.field("field 1 1;sledge 1 1 99;lads 1 9 1;" + "stone 0 0 9;".repeat(12));
        CHECK.is("30: F 99 holds eleven of size 9", (1 << 11) - 1, x.loads(0, 0));
        x = Check.field("field 1 1;sledge 1 1 98;lads 1 9 1;" + "stone 0 0 9;".repeat(12) + "stone 0 0 8;");
        CHECK.is("30: F 98 holds ten, and then 8", (1 << 10) - 1 | 1 << 12, x.loads(0, 0));
    }

    private static void cutUpward() {
        String six = "field 1 1;lads 6 9 1;";
        CHECK.is("29: 1 by 6", 1, Check.field(six + "stone 0 0 1;").lifts(0, 0));
        CHECK.is("29: 5 by 6", 1, Check.field(six + "stone 0 0 5;").lifts(0, 0));
        CHECK.is("29: 6 by 6", 1, Check.field(six + "stone 0 0 6;").lifts(0, 0));
        CHECK.is("29: 7 by 6", 2, Check.field(six + "stone 0 0 7;").lifts(0, 0));
        CHECK.is("29: all together: 6 and 6 by 6", 2, Check.field(six + "stone 0 0 6;stone 0 0 6;").lifts(0, 0));
        CHECK.is("29: all together: 3 and 3 by 6", 1, Check.field(six + "stone 0 0 3;stone 0 0 3;").lifts(0, 0));
        CHECK.is("29: all together: 6 and 6 and 1 by 6", 3,
            Check.field(six + "sledge 0 1 13;stone 0 0 6;stone 0 0 6;stone 0 0 1;").lifts(0, 0));
        CHECK.is("29: 7 by 1", 7, Check.field("field 1 1;lads 1 9 1;stone 0 0 7;").lifts(0, 0));
    }

    private static void howFarLiftsGo() {
        FieldStones x = Check.field("field 8 6;lads 1 9 9;stone 7 5 9;stone 7 5 1;stone 0 0 2;sledge 0 1 99;");
        CHECK.is("29: 18 times 12 for each, and 10", 2 * 216 + 10, x.lifts(7, 5));
        CHECK.is("29: where the sledge stands: its size", 2, x.lifts(0, 0));
        Check.work(x, "to 7 5;");
        CHECK.is("29: where the sledge stands: their sizes", 10, x.lifts(7, 5));
        CHECK.is("29: and from there to 0 0", 216 + 2, x.lifts(0, 0));
        takes("a lift does not move the sledge", x, "lift 0 0;", 218);
        CHECK.is("12: X", 7, x.sledge(0));
        CHECK.is("12: Y", 5, x.sledge(1));
    }

    private static void nothingToLift() {
        FieldStones x = Check.field("field 2 1;stone 0 0 4;");
        isRefused("none lies there", x, "lift 1 0;");
        takes("the one", x, "lift 0 0;", 2);
        isRefused("none lies there any more", x, "lift 0 0;");
        CHECK.is("29: it would be refused", -1, x.lifts(0, 0));
        CHECK.is("30: none", 0, x.loads(0, 0));
    }

    private static void bars() {
        FieldStones x = Check.field("field 2 1;lads 2 8 1;stone 0 0 8;stone 0 0 9;stone 1 0 9;bar 30;sledge 0 1 99;");
        takes("size A and 1, bar 30", x, "bar;", 270);
        CHECK.is("10: size A is left there", 0, x.stone(0, 4));
        CHECK.is("10: where the sledge stands alone", 0, x.stone(2, 4));
        isRefused("size A alone", x, "bar;");
        takes("there", x, "to 1 0;", 1);
        takes("where it stands now", x, "bar;", 270);
        isRefused("none lies there", x, "bar;");
        FieldStones all = Check.field("field 1 1;lads 2 9 1;stone 0 0 9;");
        isRefused("none is larger than A 9", all, "bar;");
        FieldStones one = Check.field("field 1 1;lads 1 1 1;stone 0 0 2;bar 1;");
        isRefused("one lad", one, "bar;");
        FieldStones two = Check.field("field 1 1;lads 2 1 1;stone 0 0 2;bar 1;");
        takes("two lads, bar 1", two, "bar;", 2);
        FieldStones six = Check.field("field 1 1;lads 6 1 9;stone 0 0 2;stone 0 0 3;bar 1;");
        takes("not by N", six, "bar;", 5);
        FieldStones lost = Check.field("field 2 1;stone 0 0 9;bar 1;");
        takes("round it", lost, "round 0 0;", 0);
        takes("in a lost cell, too", lost, "bar;", 9);
    }

    private static void whatTheSledgeHoldsByBar() {
        String stones = "field 1 1;lads 2 1 1;bar 1;stone 0 0 9;stone 0 0 8;stone 0 0 2;stone 0 0 1;";
        FieldStones x = Check.field(stones + "sledge 0 1 18;");
        takes("F 18 holds 9 and 8", x, "bar;", 17);
        CHECK.is("30: and one of size 1 yet", 8, x.loads(0, 0));
        takes("which is lifted", x, "lift 0 0;", 1);
        isRefused("a full sledge", x, "bar;");
        x = Check.field(stones + "sledge 0 1 16;");
        takes("F 16 holds 9 and 2", x, "bar;", 11);
        CHECK.is("12: 11 on it", 11, x.sledge(2));
        x = Check.field(stones + "sledge 0 1 8;");
        takes("F 8 holds 8", x, "bar;", 8);
        x = Check.field(stones + "sledge 0 1 1;");
        isRefused("F 1 holds none of these", x, "bar;");
    }

    private static void walls() {
        FieldStones x = Check.field("field 8 6;lads 1 9 1;stone 7 5 1;stone 7 5 9;sledge 60 9 9;");
        takes("there", x, "to 7 5;", 168);
        takes("one of them, 9 is too much with it", x, "lift 7 5;", 1);
        takes("from X 7", x, "wall;", 60 + 9 * 8);
        CHECK.is("12: X", 0, x.sledge(0));
        CHECK.is("12: its row", 5, x.sledge(1));
        CHECK.is("12: empty", 0, x.sledge(2));
        CHECK.is("13: in the wall", 1, x.sums(3));
        takes("lift from afar", x, "lift 7 5;", 14 + 9);
        takes("from X 0", x, "wall;", 60 + 9);
        CHECK.is("13: in the wall", 10, x.sums(3));
        CHECK.is("9: two in the wall", 2, x.told(5));
        CHECK.is("9: none lies", 0, x.told(3));
    }

    private static void nothingForTheWall() {
        FieldStones x = Check.field("field 2 1;stone 1 0 4;");
        isRefused("an empty sledge", x, "wall;");
        takes("to the stone", x, "to 1 0;", 4);
        isRefused("empty yet", x, "wall;");
        takes("it is lifted", x, "lift 1 0;", 2);
        takes("and is in the wall", x, "wall;", 5);
        isRefused("empty again", x, "wall;");
    }

    private static void heaps() {
        FieldStones x = Check.field("field 2 2;stone 0 0 1;stone 0 0 1;stone 1 1 9;stone 1 0 2;");
        isRefused("an empty sledge, though two lie there", x, "heap;");
        takes("one and one", x, "lift 0 0;", 1);
        takes("to where none lies", x, "to 0 1;", 4);
        takes("a minute for each from the sledge", x, "heap;", 2);
        CHECK.is("11: lost", 1, x.cell(0, 1, 3));
        CHECK.is("11: in the heap", 2, x.cell(0, 1, 4));
        CHECK.is("11: those that lay elsewhere are not lost", 0, x.cell(0, 0, 3));
        isRefused("empty again", x, "heap;");
        takes("the last one", x, "lift 1 0;", 3);
        takes("to where one lies", x, "to 1 1;", 4);
        takes("a minute for the one from the sledge alone", x, "heap;", 1);
        CHECK.is("11: both are in the heap", 2, x.cell(1, 1, 4));
        CHECK.is("10: a large one, too", 3, x.stone(2, 4));
        CHECK.is("9: all in heaps", 4, x.told(6));
        CHECK.is("13: none in the wall", 0, x.sums(3));
        isRefused("a lost cell", x, "round 1 1;");
    }

    private static void rounds() {
        FieldStones x = Check.field("field 2 2;stone 1 1 9;");
        takes("where none lies", x, "round 0 0;", 0);
        isRefused("lost already", x, "round 0 0;");
        takes("where one lies", x, "round 1 1;", 0);
        isRefused("lost already", x, "round 1 1;");
        CHECK.is("9: it lies there yet", 1, x.told(3));
        CHECK.is("32: two are clean", 2, x.clean());
    }

    private static void winters() {
        FieldStones x = Check.field("field 2 1;stone 0 0 1;stone 1 0 9;soil 0 0 0;soil 1 0 99;");
        takes("a winter", x, "winter;", 0);
        CHECK.is("13: damage of 1 and 9", 20, x.sums(1));
        CHECK.is("13: soil 0 and 99", 99, x.sums(2));
        takes("round it", x, "round 1 0;", 0);
        takes("a winter", x, "winter;", 0);
        CHECK.is("13: damage of 1 alone", 22, x.sums(1));
        CHECK.is("13: soil 0 alone", 99, x.sums(2));
        Check.law(x, 0, "999+1");
        takes("a winter", x, "winter;", 0);
        CHECK.is("13: 999 at most by a stone", 22 + 999, x.sums(1));
        Check.law(x, 0, "0-1");
        takes("a winter", x, "winter;", 0);
        CHECK.is("13: 0 at least", 22 + 999, x.sums(1));
        FieldStones y = Check.field("field 8 6;");
        Check.law(y, 1, "if[x-6,if[y-4,3,0-1],0]");
        takes("3 rise in the last cell, the law says", y, "winter;", 0);
        CHECK.is("15: 2 at most", 2, y.told(2));
        CHECK.is("10: X", 7, y.stone(0, 0));
        CHECK.is("10: Y", 5, y.stone(0, 1));
        CHECK.is("10: of size 1 and 21, 25, 7 by 9", 9, y.stone(0, 2));
        CHECK.is("10: the second one, behind the wrap by 9", 1, y.stone(1, 2));
        CHECK.is("10: the year in which it came", 1, y.stone(1, 3));
    }

    private static void sixtyStones() {
        FieldStones x = Check.field("field 1 1;" + "stone 0 0 1;".repeat(30));
        Check.law(x, 1, "2");
        Check.work(x, "again 14[winter;];");
        CHECK.is("9: 58", 58, x.told(2));
        Check.work(x, "winter;");
        CHECK.is("9: both have room", 60, x.told(2));
        CHECK.is("15: the law tells 2 yet", 2, x.rises(0, 0));
        CHECK.is("5: a winter is done", 1, Check.work(x, "winter;"));
        CHECK.is("9: none beyond 60", 60, x.told(2));
        CHECK.is("9: the year is one more", 16, x.told(7));
        CHECK.is("13: the soil is won", 80, x.sums(2));
        CHECK.is("10: the last one came in the year 15", 15, x.stone(59, 3));
        CHECK.noStone("10: number 60", () -> x.stone(60, 0));
        CHECK.noStone("16: number 60", () -> x.clear(60));
    }

    private static void fiftyNineStones() {
        FieldStones x = Check.field("field 1 1;" + "stone 0 0 1;".repeat(29));
        Check.law(x, 1, "2");
        Check.work(x, "again 15[winter;];");
        CHECK.is("9: 59", 59, x.told(2));
        CHECK.noStone("10: number 59 is not there yet", () -> x.stone(59, 0));
        Check.work(x, "lift 0 0;wall;winter;");
        CHECK.is("9: those in the wall count: one has room", 60, x.told(2));
        CHECK.is("10: the first of the two: 1 and 112 by 9", 5, x.stone(59, 2));
        CHECK.is("10: it came in the year 16", 16, x.stone(59, 3));
    }

    /** 281 steps begun: an again and 280 bars, which are refused where none lies. */
    private static final String BEGUN_281 = "again 20[" + "bar;".repeat(14) + "];";

    private static void ends(String what, String work, int done, int refused) {
        FieldStones x = Check.field("field 2 2;");
        CHECK.is("5: " + what + ": done", done, Check.work(x, work));
        CHECK.is("9: " + what + ": refused", refused, x.told(9));
        CHECK.is("9: " + what + ": the year", done, x.told(7));
        CHECK.is("5: " + what + ": the next work begins anew", 1, Check.work(x, "winter;"));
    }

    private static void threeHundredSteps() {
        ends("the 299th and 300th", BEGUN_281 + "bar;".repeat(17) + "winter;winter;", 2, 297);
        ends("the 300th and 301st", BEGUN_281 + "bar;".repeat(18) + "winter;winter;", 1, 298);
        ends("the 301st", BEGUN_281 + "bar;".repeat(19) + "winter;winter;", 0, 299);
        ends("fifteen winters twenty times", "again 20[again 15[winter;];];", 280, 0);
        ends("a refused step is the 300th", BEGUN_281 + "bar;".repeat(18) + "bar;bar;", 0, 299);
    }

    private static void threeHundredWithAgains() {
        ends("an again as the 300th", BEGUN_281 + "bar;".repeat(18) + "again 1[winter;];", 0, 298);
        ends("an again as the 299th", BEGUN_281 + "bar;".repeat(17) + "again 2[winter;];", 1, 297);
        ends("an again as the 301st", BEGUN_281 + "bar;".repeat(19) + "again 1[winter;];winter;", 0, 299);
        ends("an again of no times is begun, too", BEGUN_281 + "bar;".repeat(17) + "again 0[];winter;winter;", 1, 297);
        ends("an empty again is begun once", BEGUN_281 + "bar;".repeat(17) + "again 20[];winter;winter;", 1, 297);
        ends("each time it is come to", "again 20[again 0[];" + "bar;".repeat(13) + "];" + "bar;".repeat(18)
            + "winter;winter;", 1, 278);
        ends("the end of a loop is no step", "again 19[again 14[bar;];];" + "bar;".repeat(13) + "winter;winter;", 1, 279);
        ends("what would come behind is left out", "again 20[again 14[bar;];];winter;", 0, 279);
        ends("within three loops", "again 20[again 20[again 20[winter;];];];", 283, 0);
    }

    private static void timesOfAgains() {
        FieldStones x = Check.field("field 1 1;");
        CHECK.is("5: no times", 0, Check.work(x, "again 0[winter;];"));
        CHECK.is("5: once", 1, Check.work(x, "again 1[winter;];"));
        CHECK.is("5: twenty times", 20, Check.work(x, "again 20[winter;];"));
        CHECK.is("5: six deep", 64, Check.work(x, "again 2[".repeat(6) + "winter;" + "];".repeat(6)));
        CHECK.is("5: no times within", 1, Check.work(x, "again 20[again 0[winter;];];winter;"));
        CHECK.is("9: agains are not refused", 0, x.told(9));
        CHECK.is("9: years", 1 + 20 + 64 + 1, x.told(7));
    }

    /** Two rise in 0 0 each winter, of sizes 8 9, 6 7, 4 5, 2 3, 9 1, 7 8, 5 6, 3 4, 1 2 and so on from 8 9. */
    private static void bitsOfLoads() {
        FieldStones x = Check.field("field 2 1;lads 2 9 1;sledge 0 1 99;" + "stone 1 0 9;".repeat(30));
        Check.law(x, 1, "if[x,0,2]");
        Check.work(x, "again 15[winter;];");
        CHECK.is("9: stones", 60, x.told(2));
        CHECK.is("30: the bits below 30 lie elsewhere, 99 by number 57", 1L << 57 | (1L << 49) - (1L << 30),
            x.loads(0, 0));
        Check.work(x, "lift 0 0;");
        CHECK.is("12: full", 99, x.sledge(2));
        Check.work(x, "wall;");
        CHECK.is("30: all others up to the highest bit", (1L << 60) - (1L << 49) - (1L << 57), x.loads(0, 0));
        CHECK.is("29: their sizes by two", 30, x.lifts(0, 0));
    }

    private static void choices() {
        FieldStones x = Check.field("field 3 1;");
        CHECK.is("28: no largest", -1, x.chosen(0));
        CHECK.is("28: no nearest", -1, x.chosen(1));
        Check.field(x, "field 3 1;stone 2 0 1;");
        CHECK.is("28: the only one is the largest", 0, x.chosen(0));
        CHECK.is("28: the only one is the nearest", 0, x.chosen(1));
        Check.field(x, "field 3 1;stone 2 0 8;stone 1 0 8;stone 1 0 9;stone 0 0 9;sledge 0 1 99;");
        CHECK.is("28: the largest, of these the first", 2, x.chosen(0));
        CHECK.is("28: the nearest", 3, x.chosen(1));
        Check.work(x, "to 1 0;");
        CHECK.is("28: the nearest, of these the first", 1, x.chosen(1));
        Check.work(x, "round 1 0;");
        CHECK.is("28: in lost cells, too", 2, x.chosen(0));
        CHECK.is("28: in lost cells, too", 1, x.chosen(1));
        Check.work(x, "bar;to 0 0;");
        CHECK.is("28: not what is on the sledge", 3, x.chosen(0));
        CHECK.is("28: the nearest now", 3, x.chosen(1));
        Check.work(x, "wall;bar;wall;to 2 0;");
        CHECK.is("28: one is left", 0, x.chosen(0));
        Check.work(x, "bar;heap;");
        CHECK.is("28: none lies", -1, x.chosen(0));
        CHECK.is("28: none lies", -1, x.chosen(1));
    }

    private static void cellsToldOf() {
        FieldStones x = Check.field("field 8 6;stone 7 5 1;");
        CHECK.is("31: the last cell", 47, x.stoniest());
        CHECK.is("32: all but this one", 47, x.clean());
        Check.work(x, "round 7 5;");
        CHECK.is("31: lost, too", 47, x.stoniest());
        CHECK.is("32: neither lost nor stony", 47, x.clean());
        Check.work(x, "round 0 0;");
        CHECK.is("32: not a lost one", 46, x.clean());
        Check.field(x, "field 8 6;stone 7 4 2;stone 0 5 1;stone 0 5 1;stone 1 5 2;");
        CHECK.is("31: most sizes, of these the first row", 39, x.stoniest());
        Check.field(x, "field 8 6;stone 7 4 2;stone 0 5 1;stone 0 5 2;");
        CHECK.is("31: not most stones or the first", 40, x.stoniest());
        Check.field(x, "field 1 1;stone 0 0 1;");
        CHECK.is("32: none is clean", 0, x.clean());
        CHECK.is("31: the first cell", 0, x.stoniest());
        Check.work(x, "lift 0 0;");
        CHECK.is("32: the only one is clean", 1, x.clean());
        CHECK.is("31: none lies", -1, x.stoniest());
        Check.work(x, "heap;");
        CHECK.is("32: it is lost", 0, x.clean());
        CHECK.is("31: a heap does not lie", -1, x.stoniest());
        CHECK.is("11: no sizes lie in it", 0, x.cell(0, 0, 2));
        CHECK.is("11: one is in the heap", 1, x.cell(0, 0, 4));
        CHECK.is("11: a lost cell has its soil told", 5, x.cell(0, 0, 0));
    }
}
