/** Promises 5, 9 to 13 and 28 to 32: the steps of work, and what is told of stones, cells, the sledge and the sums. */
public final class WorkTest {
    private static final Check CHECK = new Check();
    /** By number: 1, 2, 3 and 8 in 0 0; 4 in 3 2; 7 and 9 in 2 1. */
    private static final String FIELD = "field 4 3;stone 0 0 1;stone 0 0 2;stone 0 0 3;stone 0 0 8;stone 3 2 4;"
        + "stone 2 1 7;stone 2 1 9;lads 2 4 2;sledge 10 3 5;bar 2;";

    public static void main(String[] args) {
        drives();
        lifts();
        skipsWhatIsTooHeavy();
        bars();
        walls();
        heaps();
        rounds();
        winters();
        winterIsAtOnce();
        sixtyStones();
        again();
        choices();
        wrongInputs();
        CHECK.end();
    }

    private static void tells(String what, FieldStones x, int... due) {
        int[] got = {x.told(3), x.told(4), x.told(5), x.told(6), x.told(9), x.sums(0), x.sledge(0), x.sledge(1),
            x.sledge(2)};
        String[] names = {"lie", "on the sledge", "in the wall", "in heaps", "refused", "minutes", "sledge X", "sledge Y",
            "load"};
        for (int i = 0; i < due.length; i++) {
            CHECK.is(what + ": " + names[i], due[i], got[i]);
        }
    }

    private static void drives() {
        FieldStones x = Check.field(FIELD);
        CHECK.is("5: to", 1, Check.work(x, "to 0 0;to 3 2;to 3 2;"));
        tells("5: to", x, 7, 0, 0, 0, 2, 10 + 3 * 5, 3, 2, 0);
        CHECK.is("5: and back", 2, Check.work(x, "to 1 2;to 0 0;"));
        tells("5: back", x, 7, 0, 0, 0, 0, 25 + 16 + 19, 0, 0, 0);
    }

    private static void lifts() {
        FieldStones x = Check.field(FIELD);
        CHECK.is("29: sizes 1 and 2 by 2 lads", 2, x.lifts(0, 0));
        CHECK.is("30: which", 3, x.loads(0, 0));
        CHECK.is("29: from afar: 2 K 5 and 4, by 2", 12, x.lifts(3, 2));
        CHECK.is("30: number 4", 16, x.loads(3, 2));
        CHECK.is("29: too large", -1, x.lifts(2, 1));
        CHECK.is("30: too large", 0, x.loads(2, 1));
        CHECK.is("29: none there", -1, x.lifts(1, 0));
        CHECK.is("30: none there", 0, x.loads(1, 0));
        CHECK.is("5: one lift, the sledge full then", 1, Check.work(x, "lift 0 0;lift 0 0;lift 3 2;lift 1 0;"));
        tells("5: lift", x, 5, 2, 0, 0, 3, 2, 0, 0, 3);
        CHECK.is("10: on the sledge", 1, x.stone(0, 4));
        CHECK.is("10: left there", 0, x.stone(2, 4));
        CHECK.is("11: how many lie", 2, x.cell(0, 0, 1));
        CHECK.is("11: their sizes", 11, x.cell(0, 0, 2));
        CHECK.is("10: where it lay last", 0, x.stone(1, 0));
        FieldStones one = Check.field("stone 2 0 3;stone 2 0 4;lads 3 4 1;");
        CHECK.is("29: (4 and 3, 4 and 4) by 3, cut upward", 5, one.lifts(2, 0));
        Check.work(one, "round 2 0;");
        CHECK.is("29: in a lost cell, too", 5, one.lifts(2, 0));
        CHECK.is("5: in a lost cell, too", 1, Check.work(one, "lift 2 0;"));
    }

    private static void skipsWhatIsTooHeavy() {
        FieldStones x = Check.field("stone 0 0 4;stone 0 0 2;stone 0 0 1;sledge 3 1 5;");
        CHECK.is("30: what the sledge holds yet, by number", 5, x.loads(0, 0));
        CHECK.is("29: their minutes", 3, x.lifts(0, 0));
        Check.work(x, "lift 0 0;");
        CHECK.is("12: full", 5, x.sledge(2));
        CHECK.is("30: nothing more", 0, x.loads(0, 0));
        StringBuilder many = new StringBuilder("field 1 1;sledge 0 1 99;");
        for (int i = 0; i < 30; i++) {
            many.append("stone 0 0 1;");
        }
        FieldStones y = Check.field(many.toString());
        Check.law(y, 1, "2");
        Check.work(y, "again 20 [winter;];");
        CHECK.is("9: 60 in all", 60, y.told(2));
        CHECK.isTrue("30: bits above 32", y.loads(0, 0) >>> 32 != 0);
    }

    private static void bars() {
        FieldStones x = Check.field(FIELD.replace("sledge 10 3 5", "sledge 10 3 17"));
        CHECK.is("5: 8 and more where the sledge stands", 1, Check.work(x, "bar;bar;"));
        tells("5: bar", x, 6, 1, 0, 0, 1, 16, 0, 0, 8);
        CHECK.is("5: 7 fits, 9 does not; then 1 and 2 do not", 1, Check.work(x, "bar;to 2 1;"));
        CHECK.is("5: the one that the sledge holds yet", 1, Check.work(x, "bar;bar;"));
        CHECK.is("10: 7 is on it", 1, x.stone(5, 4));
        CHECK.is("10: or 9", 0, x.stone(6, 4));
        CHECK.is("12: sizes", 15, x.sledge(2));
        CHECK.is("13: minutes, not by lads", 16 + 19 + 14, x.sums(0));
        FieldStones alone = Check.field("stone 0 0 9;lads 1 4 1;");
        CHECK.is("5: one lad has no bar", 0, Check.work(alone, "bar;"));
        CHECK.is("9: refused", 1, alone.told(9));
        CHECK.is("13: no minutes", 0, alone.sums(0));
    }

    private static void walls() {
        FieldStones x = Check.field(FIELD);
        CHECK.is("5: an empty sledge", 0, Check.work(x, "wall;"));
        CHECK.is("5: wall", 3, Check.work(x, "lift 0 0;to 3 2;wall;wall;"));
        tells("5: wall", x, 5, 0, 2, 0, 1, 2 + 25 + 10 + 3 * 4, 0, 2, 0);
        CHECK.is("13: sizes in the wall", 3, x.sums(3));
        CHECK.is("10: in the wall", 2, x.stone(0, 4));
        CHECK.is("10: where it lay last", 0, x.stone(0, 1));
        CHECK.is("16: no clearing", 0, x.clear(0));
        Check.work(x, "to 0 0;lift 0 0;wall;");
        CHECK.is("13: more in the wall", 6, x.sums(3));
        CHECK.is("5: from X 0: B and P, too", 49 + 16 + 2 + 13, x.sums(0));
    }

    private static void heaps() {
        FieldStones x = Check.field(FIELD);
        CHECK.is("5: an empty sledge", 0, Check.work(x, "to 0 0;heap;"));
        CHECK.is("5: heap", 3, Check.work(x, "lift 0 0;to 2 1;heap;heap;"));
        tells("5: heap", x, 3, 0, 0, 4, 1, 2 + 19 + 2, 2, 1, 0);
        CHECK.is("11: lost", 1, x.cell(2, 1, 3));
        CHECK.is("11: in a heap in it", 4, x.cell(2, 1, 4));
        CHECK.is("11: none lies in it", 0, x.cell(2, 1, 1));
        CHECK.is("11: none there", 0, x.cell(0, 0, 4));
        CHECK.is("11: not lost", 0, x.cell(0, 0, 3));
        CHECK.is("10: in a heap", 3, x.stone(0, 4));
        CHECK.is("10: lay last in 0 0", 0, x.stone(0, 0));
        CHECK.is("10: lay last in 2 1", 2, x.stone(5, 0));
        CHECK.is("5: once more there", 3, Check.work(x, "to 3 2;lift 3 2;to 2 1;round 2 1;"));
        CHECK.is("5: a lost cell takes a heap", 1, Check.work(x, "heap;"));
        CHECK.is("11: 5 in it", 5, x.cell(2, 1, 4));
        CHECK.is("13: nothing in the wall", 0, x.sums(3));
        FieldStones y = Check.field("stone 1 0 9;stone 0 0 1;");
        CHECK.is("5: the first stone lies there", 3, Check.work(y, "lift 0 0;to 1 0;heap;"));
        CHECK.is("10: it is in the heap", 3, y.stone(0, 4));
    }

    private static void rounds() {
        FieldStones x = Check.field(FIELD);
        CHECK.is("5: round", 1, Check.work(x, "round 2 1;round 2 1;"));
        tells("5: round", x, 7, 0, 0, 0, 1, 0, 0, 0, 0);
        CHECK.is("11: lost", 1, x.cell(2, 1, 3));
        CHECK.is("11: they lie there yet", 2, x.cell(2, 1, 1));
        CHECK.is("10: lies", 0, x.stone(5, 4));
        CHECK.is("16: a stone in a lost cell lies, too", 14, x.clear(5));
        CHECK.is("32: cells", 12 - 1 - 2, x.clean());
    }

    private static void winters() {
        FieldStones x = Check.field("field 2 2;stone 0 0 3;stone 1 1 4;soil 1 1 50;soil 0 0 7;");
        CHECK.is("5: winter", 1, Check.work(x, "winter;"));
        CHECK.is("13: damage of 3 and 4", 14, x.sums(1));
        CHECK.is("13: soil won", 67, x.sums(2));
        CHECK.is("13: no minutes", 0, x.sums(0));
        CHECK.is("9: the year", 1, x.told(7));
        CHECK.is("9: none rose", 2, x.told(2));
        Check.work(x, "round 1 1;winter;");
        CHECK.is("13: 3 alone", 14 + 6, x.sums(1));
        CHECK.is("13: without the lost cell", 67 + 17, x.sums(2));
        Check.work(x, "lift 0 0;winter;");
        CHECK.is("13: none lies", 20, x.sums(1));
        Check.law(x, 0, "year");
        Check.work(x, "again 3 [winter;];");
        CHECK.is("13: all cells lost but what is on the sledge", 20, x.sums(1));
        FieldStones large = Check.field("stone 0 0 9;stone 0 0 8;");
        Check.work(large, "winter;");
        CHECK.is("13: damage of the largest, too", 34, large.sums(1));
        FieldStones y = Check.field("field 1 1;stone 0 0 1;");
        Check.law(y, 0, "year+1");
        Check.work(y, "again 3 [winter;];");
        CHECK.is("13: the year that ends: 1, 2, 3", 6, y.sums(1));
    }

    private static void winterIsAtOnce() {
        FieldStones x = Check.field("field 3 2;");
        Check.law(x, 1, "if[all,0,2]");
        CHECK.is("5: winter", 2, Check.work(x, "round 1 0;winter;"));
        CHECK.is("9: two in each of 5, as all was ahead of the rise", 10, x.told(2));
        CHECK.is("10: row by row: X", 0, x.stone(1, 0));
        CHECK.is("10: row by row: X", 2, x.stone(2, 0));
        CHECK.is("10: row by row: Y", 1, x.stone(4, 1));
        CHECK.is("10: size 1 and 7", 8, x.stone(0, 2));
        CHECK.is("10: size 1 and 8", 9, x.stone(1, 2));
        CHECK.is("10: size 1 and (6, 7) by 9", 5, x.stone(2, 2));
        CHECK.is("10: size 1 and (5, 7, 1) by 9", 5, x.stone(5, 2));
        CHECK.is("10: the year in which it came", 1, x.stone(5, 3));
        CHECK.is("11: none in the lost cell", 0, x.cell(1, 0, 1));
        Check.law(x, 1, "year/2");
        Check.work(x, "winter;");
        CHECK.is("9: the new year counts", 15, x.told(2));
        CHECK.is("10: size 1 and 14 by 9", 6, x.stone(10, 2));
        CHECK.is("10: its year", 2, x.stone(10, 3));
        FieldStones y = Check.field("field 2 1;stone 1 0 1;");
        Check.law(y, 1, "many");
        Check.work(y, "winter;winter;");
        CHECK.is("9: 1, 2, 4", 4, y.told(2));
        CHECK.is("11: all in one cell", 4, y.cell(1, 0, 1));
    }

    private static void sixtyStones() {
        FieldStones x = Check.field("field 8 6;stone 7 5 9;");
        Check.law(x, 1, "2");
        CHECK.is("5: winters", 3, Check.work(x, "winter;winter;winter;"));
        CHECK.is("9: none beyond 60", 60, x.told(2));
        CHECK.is("11: cell 0 0", 2, x.cell(0, 0, 1));
        CHECK.is("11: the last to get one", 1, x.cell(5, 3, 1));
        CHECK.is("10: the last one", 59, (x.stone(59, 1) * 8 + x.stone(59, 0)) * 2 + 1);
        CHECK.noStone("10: number 60", () -> x.stone(60, 0));
        Check.work(x, "lift 0 0;wall;winter;");
        CHECK.is("9: those in the wall count", 60, x.told(2));
    }

    private static void again() {
        FieldStones x = Check.field("field 8 1;");
        CHECK.is("5: loops", 8, Check.work(x, "again 2 [to 1 0;again 3 [winter;to 1 0;];];to 0 0;"));
        CHECK.is("9: refused", 7, x.told(9));
        CHECK.is("9: years", 6, x.told(7));
        CHECK.is("5: 300 begun, agains too", 284, Check.work(x, "again 20 [again 20 [winter;];];"));
        CHECK.is("9: years", 290, x.told(7));
        CHECK.is("5: what would come behind is left out", 297, Check.work(x, "again 1 [again 2[];"
            + "again 20 [winter;winter;winter;winter;winter;winter;winter;winter;winter;winter;"
            + "winter;winter;winter;winter;winter;];];to 7 0;"));
        CHECK.is("12: not there", 0, x.sledge(0));
        CHECK.is("5: refused ones begin, too", 1, Check.work(x, "to 7 0;again 20 [again 20 [to 7 0;];];winter;"));
        CHECK.is("9: refused", 14 * 20 + 3, x.told(9));
        CHECK.is("5: no time", 1, Check.work(x, "again 0 [winter;winter;];to 6 0;"));
        CHECK.is("5: empty agains", 1, Check.work(x, "again 20 [again 20 [];];to 5 0;"));
        CHECK.is("5: many empty agains, not yet 300", 1, Check.work(x, "again 14[again 20[again 20[];];];to 4 0;"));
        CHECK.is("12: there", 4, x.sledge(0));
        CHECK.is("5: nothing", 0, Check.work(x, ""));
        CHECK.is("9: none refused", 0, x.told(9));
    }

    private static void choices() {
        FieldStones x = Check.field("stone 5 3 4;stone 2 1 9;stone 3 3 9;stone 1 2 1;stone 2 1 1;");
        CHECK.is("28: the largest, the first", 1, x.chosen(0));
        CHECK.is("28: the nearest, the first", 1, x.chosen(1));
        Check.work(x, "to 1 3;");
        CHECK.is("28: nearest to the sledge", 3, x.chosen(1));
        Check.work(x, "round 2 1;");
        CHECK.is("28: in lost cells, too", 1, x.chosen(0));
        CHECK.is("31: most sizes, lost ones too", 10, x.stoniest());
        CHECK.is("32: cells", 24 - 4, x.clean());
        Check.work(x, "lift 2 1;");
        CHECK.is("31: of alike ones the first", 10, x.stoniest());
        Check.field(x, "stone 3 2 4;stone 1 2 3;stone 1 2 1;");
        CHECK.is("31: row by row", 17, x.stoniest());
        Check.field(x, "stone 0 0 4;stone 1 0 3;");
        CHECK.is("28: the first stone is the largest", 0, x.chosen(0));
        CHECK.is("28: the first stone is the nearest", 0, x.chosen(1));
        CHECK.is("31: the first cell", 0, x.stoniest());
        Check.work(x, "lift 0 0;");
        CHECK.is("31: 3 lie", 1, x.stoniest());
        Check.field(x, "stone 3 2 4;stone 1 2 3;stone 1 2 1;");
        Check.work(x, "lift 3 2;lift 1 2;");
        CHECK.is("28: none lies", -1, x.chosen(0));
        CHECK.is("28: none lies", -1, x.chosen(1));
        CHECK.is("31: none lies", -1, x.stoniest());
        CHECK.is("32: all cells", 24, x.clean());
    }

    private static void wrongInputs() {
        FieldStones x = Check.field(FIELD);
        CHECK.noArgument("9: what", () -> x.told(10));
        CHECK.noArgument("9: what", () -> x.told(-1));
        CHECK.noStone("10: no such stone", () -> x.stone(7, 0));
        CHECK.noStone("10: no such stone, ahead", () -> x.stone(-1, 9));
        CHECK.noArgument("10: what", () -> x.stone(0, 5));
        CHECK.noArgument("10: what", () -> x.stone(6, -1));
        CHECK.noCell("11: no such cell", () -> x.cell(4, 0, 0));
        CHECK.noCell("11: no such cell, ahead", () -> x.cell(0, 3, 9));
        CHECK.noCell("11: no such cell", () -> x.cell(-1, 0, 0));
        CHECK.noCell("11: no such cell", () -> x.cell(0, Integer.MIN_VALUE, 0));
        CHECK.noArgument("11: what", () -> x.cell(0, 0, 5));
        CHECK.noArgument("11: what", () -> x.cell(3, 2, -1));
        CHECK.noArgument("12: what", () -> x.sledge(3));
        CHECK.noArgument("12: what", () -> x.sledge(-1));
        CHECK.noArgument("13: what", () -> x.sums(4));
        CHECK.noArgument("13: what", () -> x.sums(-1));
        CHECK.noArgument("28: what", () -> x.chosen(2));
        CHECK.noArgument("28: what", () -> x.chosen(-1));
        CHECK.noCell("29: no such cell", () -> x.lifts(4, 2));
        CHECK.noCell("29: no such cell", () -> x.lifts(3, -1));
        CHECK.noCell("30: no such cell", () -> x.loads(4, 2));
        CHECK.noCell("30: no such cell", () -> x.loads(0, 3));
        CHECK.is("35: cells", 8, x.status(0));
        CHECK.is("35: stones", 2, x.status(1));
        CHECK.is("35: arguments", 12, x.status(2));
    }
}
