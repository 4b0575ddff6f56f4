/** Promises 16 to 22: clearings, stops, way, heaps, line, first, mix. */
public final class PlansTest {
    private static final Check CHECK = new Check();

    public static void main(String[] args) {
        clear();
        stops();
        way();
        heaps();
        line();
        first();
        mix();
        nothingIsChanged();
        CHECK.end();
    }

    private static void clear() {
        FieldStones x = Check.field("stone 2 1 3;stone 5 0 4;stone 0 0 5;lads 2 4 3;bar 7;");
        CHECK.is("16: 2 K times 3, and 3", 21, x.clear(0));
        CHECK.is("16: of size A", 40, x.clear(1));
        CHECK.is("16: bar", 35, x.clear(2));
        Check.work(x, "lift 2 1;");
        CHECK.is("16: it does not lie", 0, x.clear(0));
        CHECK.noStone("16: no such stone", () -> x.clear(3));
        CHECK.noStone("16: no such stone", () -> x.clear(-1));
        CHECK.is("35: stones", 2, x.status(1));
    }

    private static void stopsAre(String what, FieldStones x, int y, int minutes, int number, int bits) {
        CHECK.is("17: minutes, " + what, minutes, x.stops(y, 0));
        CHECK.is("17: how many, " + what, number, x.stops(y, 1));
        CHECK.is("17: bits, " + what, bits, x.stops(y, 2));
    }

    private static void stops() {
        String three = "field 8 2;stone 0 0 1;stone 1 0 4;stone 7 0 2;stone 3 0 5;stone 4 1 9;";
        stopsAre("B 3: 0 and 1 go together, 7 alone", Check.field(three), 0, 3 + 3 + 2, 2, 129);
        stopsAre("B 2: alike with three, the fewest stops", Check.field(three + "sledge 2 1 9;"), 0, 6, 2, 129);
        stopsAre("B 1", Check.field(three + "sledge 1 1 9;"), 0, 3, 3, 131);
        stopsAre("B 0", Check.field(three + "sledge 0 1 9;"), 0, 0, 3, 131);
        stopsAre("B 60: all to the middle one", Check.field(three + "sledge 60 1 9;"), 0, 60 + 14, 1, 2);
        stopsAre("K 2: now apart", Check.field(three + "lads 2 4 2;"), 0, 9, 3, 131);
        stopsAre("only too large ones", Check.field(three), 1, 0, 0, 0);
        stopsAre("of alike ones the least bits", Check.field("stone 2 1 1;stone 4 1 1;sledge 9 1 9;"), 1, 13, 1, 4);
        FieldStones lost = Check.field(three);
        Check.work(lost, "round 7 0;");
        stopsAre("not in lost cells", lost, 0, 5, 1, 1);
        Check.work(lost, "lift 1 0;");
        stopsAre("nor on the sledge", lost, 0, 3, 1, 1);
        FieldStones x = Check.field("field 2 3;");
        CHECK.noArgument("17: no such row", () -> x.stops(3, 0));
        CHECK.noArgument("17: no such row", () -> x.stops(-1, 0));
        CHECK.noArgument("17: what", () -> x.stops(0, 3));
        CHECK.noArgument("17: what", () -> x.stops(0, -1));
    }

    private static void wayIs(String what, FieldStones x, long minutes, long rows) {
        CHECK.is("18: minutes, " + what, minutes, x.way(0));
        CHECK.is("18: rows, " + what, rows, x.way(1));
    }

    private static void way() {
        wayIs("none", Check.field("field 8 6;"), 0, 0);
        wayIs("row 0", Check.field("field 8 6;stone 3 0 9;"), 7, 0);
        wayIs("row 1, P 2", Check.field("field 3 2;stone 0 1 1;sledge 60 2 1;"), 6, 1);
        wayIs("rows 0 and 1", Check.field("field 3 2;stone 0 1 1;stone 0 0 1;"), 5, 7);
        wayIs("row 5 from the right is 11", Check.field("field 2 6;stone 0 4 1;stone 0 5 1;"), 7, 40 + 11);
        wayIs("three rows", Check.field("field 4 6;stone 3 5 1;stone 3 1 1;stone 0 3 1;"), 5 + 9, 100 + 90 + 5);
        wayIs("one column: from the left", Check.field("field 1 6;stone 0 5 1;stone 0 2 1;"), 5, 25);
        wayIs("all rows", Check.field("field 8 6;stone 0 0 1;stone 0 1 1;stone 0 2 1;stone 0 3 1;stone 0 4 1;"
            + "stone 0 5 1;sledge 0 9 1;"), 9 * (5 + 42), 72951);
        FieldStones x = Check.field("field 3 3;stone 0 1 1;stone 0 2 1;stone 2 2 1;");
        Check.work(x, "round 0 2;lift 2 2;to 2 2;");
        wayIs("those that lie in cells not lost, from 0 0", x, 3, 1);
        CHECK.noArgument("18: what", () -> x.way(2));
        CHECK.noArgument("18: what", () -> x.way(-1));
    }

    private static void heapsAre(String what, FieldStones x, int years, int cost, int cells) {
        CHECK.is("19: cost, " + what, cost, x.heaps(years, 0));
        CHECK.is("19: cells, " + what, cells, x.heaps(years, 1));
    }

    private static void heaps() {
        heapsAre("none lies", new FieldStones(), 0, 0, 0);
        FieldStones one = Check.field("field 4 1;stone 3 0 1;soil 3 0 4;");
        heapsAre("alike: the fewest", one, 1, 4, 0);
        heapsAre("no years", one, 0, 0, 4);
        FieldStones two = Check.field("field 4 1;stone 3 0 1;stone 2 0 9;sledge 5 3 1;");
        heapsAre("no years: both", two, 0, 0, 3 * 64 + 4);
        heapsAre("one year: the first of alike cells", two, 1, 3 + 5, 3);
        heapsAre("three years", two, 3, 3 + 15, 3);
        heapsAre("four years: none", two, 4, 21, 0);
        heapsAre("sixty years", two, 60, 21, 0);
        Check.work(two, "round 2 0;");
        heapsAre("not in lost cells", two, 1, 5, 4);
        FieldStones here = Check.field("field 2 1;stone 0 0 1;soil 0 0 0;");
        heapsAre("in the first cell", here, 60, 0, 1);
        heapsAre("the first cell with another one", Check.field("field 8 1;stone 0 0 1;stone 7 0 1;"), 0, 0, 64 + 8);
        FieldStones beside = Check.field("field 5 1;stone 4 0 1;");
        Check.work(beside, "round 3 0;");
        heapsAre("its own cell", beside, 0, 0, 5);
        Check.work(beside, "lift 4 0;to 4 0;heap;");
        heapsAre("nothing lies", beside, 0, 0, 0);
        FieldStones around = Check.field("field 8 1;stone 5 0 1;stone 7 0 1;soil 5 0 9;soil 7 0 9;");
        Check.work(around, "round 6 0;");
        heapsAre("no heap in a lost cell, be it the best", around, 1, 1 + 3 + 5, 5);
        FieldStones three = Check.field("field 8 6;stone 7 0 1;stone 7 5 1;stone 6 5 1;stone 0 3 1;");
        heapsAre("8 Y and X, the first cells", three, 0, 1 + 1, (8 * 0 + 7 + 1) * 64 + 40 + 6 + 1);
        CHECK.noArgument("19: years", () -> three.heaps(-1, 0));
        CHECK.noArgument("19: years", () -> three.heaps(61, 0));
        CHECK.noArgument("19: what", () -> three.heaps(0, 2));
        CHECK.noArgument("19: what", () -> three.heaps(0, -1));
    }

    private static void lineIs(String what, FieldStones x, int years, int size, int cost) {
        CHECK.is("20: size, " + what, size, x.line(years, 0));
        CHECK.is("20: cost, " + what, cost, x.line(years, 1));
    }

    private static void line() {
        // The clearings are 3, 6 and 25, the damage of a year 2, 8 and 10.
        FieldStones x = Check.field("stone 0 0 1;stone 0 0 4;stone 0 0 5;");
        lineIs("no years: none is cleared, the least such size", x, 0, 6, 0);
        lineIs("one year: 20 of damage", x, 1, 6, 20);
        lineIs("two years: all are cleared", x, 2, 1, 34);
        lineIs("sixty years", x, 60, 1, 34);
        Check.law(x, 0, "if[size - 4, 100, 1]");
        lineIs("the large one alone", x, 1, 5, 25 + 2);
        lineIs("four years", x, 4, 5, 25 + 8);
        lineIs("five years", x, 5, 1, 34);
        Check.work(x, "round 0 0;");
        lineIs("not in lost cells", x, 60, 1, 0);
        lineIs("none by any size", Check.field("stone 0 0 9;"), 0, 10, 0);
        CHECK.noArgument("20: years", () -> x.line(-1, 0));
        CHECK.noArgument("20: years", () -> x.line(61, 0));
        CHECK.noArgument("20: what", () -> x.line(0, 2));
        CHECK.noArgument("20: what", () -> x.line(0, -1));
    }

    private static void firstIs(String what, FieldStones x, int minutes, long soil, long spent, long bits) {
        CHECK.is("21: soil, " + what, soil, x.first(minutes, 0));
        CHECK.is("21: minutes, " + what, spent, x.first(minutes, 1));
        CHECK.is("21: bits, " + what, bits, x.first(minutes, 2));
    }

    private static void first() {
        FieldStones alike = Check.field("stone 0 0 1;stone 0 1 1;stone 0 2 1;");
        firstIs("no minutes", alike, 0, 0, 0, 0);
        firstIs("too few", alike, 2, 0, 0, 0);
        firstIs("the least bits", alike, 3, 5, 3, 1);
        firstIs("the fewest minutes", alike, 5, 5, 3, 1);
        firstIs("the least bits of two", alike, 6, 10, 6, 257);
        firstIs("all", alike, 999, 15, 9, 65793);
        firstIs("no soil", Check.field("stone 0 0 1;soil 0 0 0;"), 999, 0, 0, 0);
        FieldStones heavy = Check.field("stone 0 0 1;stone 0 0 4;stone 1 0 2;soil 1 0 9;");
        firstIs("the richer one", heavy, 14, 9, 6, 2);
        firstIs("all of a cell", heavy, 15, 14, 15, 3);
        FieldStones poor = Check.field("stone 0 0 4;stone 1 0 1;soil 0 0 1;soil 1 0 2;");
        firstIs("more minutes than pence", poor, 10, 2, 5, 2);
        firstIs("more minutes than pence, both", poor, 11, 3, 11, 3);
        FieldStones sly = Check.field("stone 0 0 2;stone 0 1 1;stone 0 2 1;soil 0 0 50;soil 0 1 30;soil 0 2 30;");
        firstIs("the two smaller ones", sly, 6, 60, 6, 65792);
        firstIs("one of them with the large one", sly, 7, 80, 7, 257);
        FieldStones far = Check.field("field 8 6;stone 7 5 1;");
        firstIs("the highest bit", far, 17, 5, 17, 1L << 47);
        Check.work(far, "round 7 5;");
        firstIs("not in lost cells", far, 999, 0, 0, 0);
        firstIs("more than any minutes", Check.field("stone 0 0 9;".repeat(25)), 999, 0, 0, 0);
        FieldStones most = Check.field("field 1 1;lads 2 4 9;bar 30;" + "stone 0 0 9;".repeat(3) + "stone 0 0 3;".repeat(9));
        firstIs("just so many minutes", most, 999, 5, 999, 1);
        firstIs("one too few", most, 998, 0, 0, 0);
        CHECK.noArgument("21: minutes", () -> far.first(-1, 0));
        CHECK.noArgument("21: minutes", () -> far.first(1000, 0));
        CHECK.noArgument("21: what", () -> far.first(0, 3));
        CHECK.noArgument("21: what", () -> far.first(0, -1));
    }

    private static void mixIs(String what, FieldStones x, int minutes, int lad, int horse, int... due) {
        for (int i = 0; i < 3; i++) {
            CHECK.is("22: " + what + " " + i, due[i], x.mix(minutes, lad, horse, i));
        }
    }

    private static void mix() {
        // The clearings are 6, 12, 30 and 3: 51 together.
        FieldStones x = Check.field("field 4 2;stone 1 0 2;stone 3 0 4;stone 1 1 6;stone 0 1 1;");
        mixIs("a horse", x, 60, 2, 3, 51, 0, 1);
        mixIs("two horses as cheap as three", x, 10, 2, 3, 54, 0, 2);
        mixIs("for nothing: no lads", x, 51, 0, 0, 0, 0, 1);
        mixIs("one lad as cheap as three", x, 51, 1, 9, 51, 1, 0);
        mixIs("one has too few minutes", x, 50, 1, 9, 51, 3, 0);
        mixIs("13 hands", x, 4, 5, 5, 4 * (4 * 5 + 3 * 5), 4, 3);
        mixIs("too few minutes", x, 3, 5, 5, -1, -1, -1);
        mixIs("six lads", x, 9, 1, 99, 9 * 6, 6, 0);
        mixIs("no seven lads", x, 8, 1, 99, 6 * (6 + 99), 6, 1);
        mixIs("most minutes", x, 9999, 99, 99, 17 * 99, 0, 1);
        Check.work(x, "round 0 1;round 1 1;round 1 0;");
        mixIs("12 alone", x, 12, 1, 99, 12, 1, 0);
        Check.work(x, "round 3 0;");
        mixIs("nothing to clear", x, 1, 99, 99, 0, 0, 0);
        CHECK.noArgument("22: minutes", () -> x.mix(0, 0, 0, 0));
        CHECK.noArgument("22: minutes", () -> x.mix(10000, 0, 0, 0));
        CHECK.noArgument("22: a lad", () -> x.mix(1, -1, 0, 0));
        CHECK.noArgument("22: a lad", () -> x.mix(1, 100, 0, 0));
        CHECK.noArgument("22: a horse", () -> x.mix(1, 0, -1, 0));
        CHECK.noArgument("22: a horse", () -> x.mix(1, 0, 100, 0));
        CHECK.noArgument("22: what", () -> x.mix(1, 0, 0, 3));
        CHECK.noArgument("22: what", () -> x.mix(1, 0, 0, -1));
        CHECK.is("35: arguments", 8, x.status(2));
    }

    private static void nothingIsChanged() {
        FieldStones x = Check.field("field 3 2;stone 0 0 1;stone 2 1 4;stone 1 1 9;");
        Check.law(x, 1, "year % 2");
        Check.book(x, "1 1 1;");
        Check.work(x, "lift 2 1;winter;heap;wall;");
        String before = Tale.ofAll(x);
        x.stops(0, 0);
        x.way(0);
        x.heaps(1, 0);
        x.line(1, 0);
        x.first(99, 0);
        x.mix(99, 1, 1, 0);
        x.enough(40, 1);
        x.left(40, 20);
        x.fits();
        x.frost(1, 9, 20, 0);
        x.span(1, 20, 9, 5, 9, 2);
        CHECK.isTrue("17 to 27: asked, nothing stays changed", before.equals(Tale.ofAll(x)));
    }
}
