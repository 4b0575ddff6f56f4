/** Promises 23 to 27: years till it is enough, what is left, old heaps, frosts. */
public final class YearsTest {
    private static final Check CHECK = new Check();
    /** What 16 leaves of the draws from seed 5 on, by hand: the document's DRAW. */
    private static final int[] DRAWS_OF_5 = {15, 9, 8, 5, 1, 12, 8, 3, 12, 8, 13, 12};

    public static void main(String[] args) {
        enough();
        left();
        leftInThirtyYears();
        fits();
        frost();
        span();
        wrongInputs();
        CHECK.end();
    }

    private static void enough() {
        // The clearings are 6, 12, 30 and 3.
        FieldStones x = Check.field("field 4 2;stone 1 0 2;stone 3 0 4;stone 1 1 6;stone 0 1 1;");
        CHECK.is("23: all at once", 1, x.enough(51, 0));
        CHECK.is("23: one minute less leaves the smallest", 1, x.enough(50, 1));
        CHECK.is("23: and takes a second year", 2, x.enough(50, 0));
        CHECK.is("23: the largest first, then 12 and 6 and 3", 2, x.enough(30, 0));
        CHECK.is("23: three are left by the first year", 1, x.enough(30, 3));
        CHECK.is("23: one too long is left out", 1, x.enough(21, 1));
        CHECK.is("23: never", -1, x.enough(29, 0));
        CHECK.is("23: none by no minutes", -1, x.enough(0, 3));
        CHECK.is("23: enough at first", 1, x.enough(0, 4));
        CHECK.is("23: most", 1, x.enough(9999, 60));
        FieldStones slow = Check.field("field 1 1;" + "stone 0 0 1;".repeat(30));
        CHECK.is("23: one a year", 30, slow.enough(3, 0));
        CHECK.is("23: till one is left", 29, slow.enough(3, 1));
        // One of size 1 rises in the years 9, 18 and 27.
        Check.law(slow, 1, "if[year % 9, 0, 1]");
        CHECK.is("23: no 31st year", -1, slow.enough(3, 2));
        CHECK.is("23: three are left then", 30, slow.enough(3, 3));
        FieldStones lost = Check.field("stone 0 0 1;stone 0 0 9;stone 1 0 1;");
        Check.work(lost, "round 0 0;");
        CHECK.is("23: cells not lost", 1, lost.enough(0, 1));
        CHECK.is("23: none of those", -1, lost.enough(4, 0));
        CHECK.is("23: but this one", 1, lost.enough(5, 0));
    }

    private static void left() {
        FieldStones x = Check.field("field 4 2;stone 1 0 2;stone 3 0 4;stone 1 1 6;stone 0 1 1;");
        CHECK.is("24: first year", 3, x.left(30, 1));
        CHECK.is("24: second year", 0, x.left(30, 2));
        CHECK.is("24: the large one stays", 1, x.left(29, 30));
        CHECK.is("24: behind the clearing, ahead of the winter", 4, x.left(0, 1));
        Check.law(x, 1, "1");
        CHECK.is("24: eight rise in the winter between", 12, x.left(0, 2));
        CHECK.is("24: 60 in all", 60, x.left(0, 30));
        CHECK.is("24: those cleared are of the 60", 0, x.left(9999, 30));
        FieldStones alike = Check.field("field 2 1;stone 1 0 3;stone 0 0 3;");
        CHECK.is("24: of alike ones by number: 7, then 5", 0, alike.left(12, 1));
        CHECK.is("24: one of them", 1, alike.left(11, 1));
        CHECK.is("24: the second one", 1, alike.left(5, 1));
        CHECK.is("24: none", 2, alike.left(4, 30));
        Check.law(alike, 1, "if[many, 0, 2]");
        // Number 0 stays; two of sizes 8 and 9 rise where number 1 lay.
        CHECK.is("24: the law sees what was cleared", 3, alike.left(5, 2));
        FieldStones lost = Check.field("field 2 1;stone 1 0 3;stone 0 0 3;");
        Check.law(lost, 1, "all");
        Check.work(lost, "round 1 0;");
        CHECK.is("24: lost ones are not counted", 0, lost.left(5, 1));
        CHECK.is("24: but the law counts them", 1, lost.left(5, 2));
    }

    private static void leftInThirtyYears() {
        FieldStones slow = Check.field("field 1 1;" + "stone 0 0 1;".repeat(30));
        CHECK.is("24: one a year", 1, slow.left(3, 29));
        CHECK.is("24: till the 30th", 0, slow.left(3, 30));
    }

    private static void fits() {
        FieldStones x = Check.field("stone 1 0 2;stone 3 0 4;stone 1 1 6;stone 0 1 1;");
        CHECK.is("25: without a book", 511, x.fits());
        Check.book(x, "1 0 2;3 0 1;");
        CHECK.is("25: size 2", 2, x.fits());
        Check.book(x, "1 0 1;3 0 1;");
        CHECK.is("25: sizes 3 and 4", 12, x.fits());
        Check.book(x, "1 0 0;3 0 0;");
        CHECK.is("25: none so large", 256 + 128 + 64, x.fits());
        Check.book(x, "2 0 3;2 1 1;");
        CHECK.is("25: far alike: 1 1 and 0 1 to the second", 0, x.fits());
        Check.book(x, "2 0 2;2 1 2;");
        CHECK.is("25: two and two", 1, x.fits());
        Check.book(x, "0 0 1;2 0 1;");
        CHECK.is("25: 1 0 is as far from both, the first line", 12, x.fits());
        Check.book(x, "0 0 3;2 0 1;");
        CHECK.is("25: three by the first", 1, x.fits());
        Check.book(x, "2 0 3;0 0 1;");
        CHECK.is("25: turned round", 1, x.fits());
        Check.work(x, "round 3 0;lift 0 1;");
        Check.book(x, "0 0 2;");
        CHECK.is("25: not lost, not on the sledge", 3, x.fits());
        x.book(0);
        CHECK.is("25: a book without lines", 511, x.fits());
    }

    private static void frost() {
        FieldStones x = Check.field("field 4 3;");
        for (int q = 0; q <= 16; q++) {
            int due = 0;
            for (int draw : DRAWS_OF_5) {
                due += draw < q ? 1 : 0;
            }
            CHECK.is("26: draws below " + q, due, x.frost(5, q, 1, 0));
            CHECK.is("26: of size 1", due, x.frost(5, q, 1, 1));
            CHECK.is("26: no damage yet", 0, x.frost(5, q, 1, 2));
            CHECK.is("26: two winters", 2 * due, x.frost(5, q, 2, 2));
        }
        FieldStones half = Check.field("field 2 3;");
        // The second winter draws 8, 3, 12, 8, 13, 12 behind 15, 9, 8, 5, 1, 12.
        CHECK.is("26: the seed goes on", 6, half.frost(5, 9, 2, 0));
        CHECK.is("26: a negative seed: 9, 9, 6, 14, 9, 2", 2, half.frost(-1, 9, 1, 0));
        Check.work(half, "round 0 1;");
        // Five cells a winter: 15, 9, 8, 5, 1 and 12, 8, 3, 12, 8.
        CHECK.is("26: a lost cell draws nothing", 4 + 5, half.frost(5, 13, 2, 0));
        FieldStones full = Check.field("field 1 1;" + "stone 0 0 2;".repeat(30));
        Check.law(full, 1, "2");
        CHECK.is("26: none beyond 60", 60, full.frost(5, 16, 20, 0));
        CHECK.is("26: 10 winters: 2 and 1 of size 1 each", 60, full.frost(5, 16, 10, 0));
        CHECK.is("26: 9 winters", 57, full.frost(5, 16, 9, 0));
        FieldStones rise = Check.field("field 3 1;stone 0 0 9;stone 1 0 4;");
        Check.law(rise, 0, "size + year");
        Check.law(rise, 1, "many");
        // One rises by each: of size 1 and 7, and of size 1 and (3, 7) by 9; then the damage is by year 1.
        CHECK.is("26: the law rises ahead of the frost", 4, rise.frost(0, 0, 1, 0));
        CHECK.is("26: sizes", 9 + 4 + 8 + 2, rise.frost(0, 0, 1, 1));
        CHECK.is("26: damage of the first year", 13, rise.frost(0, 0, 1, 2));
        CHECK.is("26: and the second", 13 + 23 + 4, rise.frost(0, 0, 2, 2));
        Check.work(rise, "winter;lift 1 0;round 1 0;");
        CHECK.is("26: of these years alone", 9 + 8 + 2, rise.frost(0, 0, 1, 2));
        CHECK.is("26: cells not lost", 4, rise.frost(0, 0, 1, 0));
    }

    private static void span() {
        FieldStones x = Check.field("field 2 3;");
        // By seed 5: 15 9 8 5 1 12, by 6: 6 11 6 12 2 9, by 7: 12 14 4 2 3 5. Below 6 they are 2, 1 and 4.
        CHECK.is("27: the fewest", 1, x.span(5, 3, 6, 1, 0, 0));
        CHECK.is("27: the most", 4, x.span(5, 3, 6, 1, 0, 1));
        CHECK.is("27: none has none", 0, x.span(5, 3, 6, 1, 0, 2));
        CHECK.is("27: one has 1", 1, x.span(5, 3, 6, 1, 1, 2));
        CHECK.is("27: two have no more than 2", 2, x.span(5, 3, 6, 1, 2, 2));
        CHECK.is("27: nor than 3", 2, x.span(5, 3, 6, 1, 3, 2));
        CHECK.is("27: all have no more than 4", 3, x.span(5, 3, 6, 1, 4, 2));
        CHECK.is("27: one seed", 2, x.span(5, 1, 6, 1, 0, 0));
        CHECK.is("27: one seed", 2, x.span(5, 1, 6, 1, 0, 1));
        // From -1 on: 9 9 6 14 9 2, then by seed 0: 0 12 4 5 10 15.
        CHECK.is("27: seeds beyond 0: the fewest", 2, x.span(-1, 2, 9, 1, 2, 0));
        CHECK.is("27: seeds beyond 0: the most", 3, x.span(-1, 2, 9, 1, 2, 1));
        CHECK.is("27: the seed wraps", 3, x.span(Integer.MAX_VALUE, 2, 9, 1, 2, 1));
        CHECK.is("27: twenty", 20, x.span(0, 20, 16, 20, 60, 2));
        CHECK.is("27: all full", 60, x.span(0, 20, 16, 20, 60, 0));
        CHECK.is("27: an n of 60 is none too large", 0, x.span(0, 1, 0, 1, 60, 0));
        CHECK.is("27: an n of 0 is none too small", 1, x.span(0, 1, 0, 1, 0, 2));
    }

    private static void wrongInputs() {
        FieldStones x = new FieldStones();
        CHECK.noArgument("23: minutes", () -> x.enough(-1, 0));
        CHECK.noArgument("23: minutes", () -> x.enough(10000, 0));
        CHECK.noArgument("23: n", () -> x.enough(0, -1));
        CHECK.noArgument("23: n", () -> x.enough(0, 61));
        CHECK.noArgument("24: minutes", () -> x.left(-1, 1));
        CHECK.noArgument("24: minutes", () -> x.left(10000, 1));
        CHECK.noArgument("24: years", () -> x.left(0, 0));
        CHECK.noArgument("24: years", () -> x.left(0, 31));
        CHECK.noArgument("26: Q", () -> x.frost(0, -1, 1, 0));
        CHECK.noArgument("26: Q", () -> x.frost(0, 17, 1, 0));
        CHECK.noArgument("26: winters", () -> x.frost(0, 0, 0, 0));
        CHECK.noArgument("26: winters", () -> x.frost(0, 0, 21, 0));
        CHECK.noArgument("26: what", () -> x.frost(0, 0, 1, 3));
        CHECK.noArgument("26: what", () -> x.frost(0, 0, 1, -1));
        CHECK.noArgument("27: many", () -> x.span(0, 0, 0, 1, 0, 0));
        CHECK.noArgument("27: many", () -> x.span(0, 21, 0, 1, 0, 0));
        CHECK.noArgument("27: Q", () -> x.span(0, 1, 17, 1, 0, 0));
        CHECK.noArgument("27: Q", () -> x.span(0, 1, -1, 1, 0, 0));
        CHECK.noArgument("27: winters", () -> x.span(0, 1, 0, 0, 0, 0));
        CHECK.noArgument("27: winters", () -> x.span(0, 1, 0, 21, 0, 0));
        CHECK.noArgument("27: n, asked by any what", () -> x.span(0, 1, 0, 1, -1, 0));
        CHECK.noArgument("27: n, asked by any what", () -> x.span(0, 1, 0, 1, 61, 1));
        CHECK.noArgument("27: n", () -> x.span(0, 1, 0, 1, -1, 2));
        CHECK.noArgument("27: n", () -> x.span(0, 1, 0, 1, 61, 2));
        CHECK.noArgument("27: what", () -> x.span(0, 1, 0, 1, 0, 3));
        CHECK.noArgument("27: what", () -> x.span(0, 1, 0, 1, 0, -1));
        CHECK.is("35: arguments", 26, x.status(2));
    }
}
