import java.util.NoSuchElementException;
import java.util.function.Function;

/**
 * Promises 3 to 6, 9 to 24, 26 to 30 and 35: each call that the document refuses, and beside it the last ones that it
 * takes. A refused one throws what is named, is counted once in its own number, and changes nothing else: not even what
 * undo, restore and the tape bring behind it.
 */
public final class RefusalsTest {
    private static final Check CHECK = new Check();
    private static final int LOWEST = Integer.MIN_VALUE;
    private static final int HIGHEST = Integer.MAX_VALUE;
    private static final int CELL = 0;
    private static final int STONE = 1;
    private static final int ARGUMENT = 2;

    private static final String UNTOUCHED = story(prepared(20));

    public static void main(String[] args) {
        CHECK.isTrue("35: a story changes, if the world does", !UNTOUCHED.equals(story(worked())));
        texts();
        longTexts();
        whatIsTold();
        cells();
        plans();
        mixes();
        years();
        choices();
        answered();
        CHECK.end();
    }

    /**
     * A field of four cells and four stones: two works, an image between them, laws, a book, a fault, a refused step, one
     * refused call of each kind, and a field's text on the tape.
     */
    private static FieldStones prepared(int bytes) {
        FieldStones x = Check.field("field 2 2;stone 0 0 4;stone 1 0 2;stone 1 1 9;stone 0 1 1;soil 1 1 9;lads 3 5 2;bar 7;");
        Check.law(x, 0, "size + year");
        Check.law(x, 1, "year % 2 * x");
        Check.book(x, "0 0 1;1 1 2;");
        Check.work(x, "lift 1 0;winter;");
        x.image();
        Check.work(x, "lift 0 0;to 1 1;wall;wall;");
        Check.law(x, 0, "(");
        Check.feed(x, "stone 1 1 7;bar 9;" + " ".repeat(bytes - 18));
        kindOf(x, z -> z.cell(2, 0, 0));
        kindOf(x, z -> z.stone(60, 0));
        kindOf(x, z -> z.told(10));
        return x;
    }

    private static FieldStones worked() {
        FieldStones x = prepared(20);
        x.work(0);
        return x;
    }

    /** All that can be seen of an object: now, behind undo, behind restore, and by the text that is on its tape. */
    private static String story(FieldStones x) {
        StringBuilder text = new StringBuilder(Tale.ofAll(x));
        text.append(x.undo()).append(": ").append(Tale.ofWork(x));
        text.append(x.restore()).append(": ").append(Tale.ofWork(x));
        text.append(x.field(Math.min(20, x.count(1)))).append(": ").append(Tale.ofAll(x));
        return text.toString();
    }

    private static int kindOf(FieldStones x, Function<FieldStones, Number> call) {
        try {
            call.apply(x);
            return -1;
        } catch (RuntimeException e) {
            if (e.getClass() == IndexOutOfBoundsException.class) {
                return CELL;
            }
            if (e.getClass() == NoSuchElementException.class) {
                return STONE;
            }
            return e.getClass() == IllegalArgumentException.class ? ARGUMENT : 9;
        }
    }

    private static void statusIs(String what, FieldStones x, int counted) {
        for (int kind = 0; kind < 3; kind++) {
            CHECK.is(what + ": status " + kind, kind == counted ? 2 : 1, x.status(kind));
        }
    }

    private static void refused(String what, int due, Function<FieldStones, Number> call) {
        FieldStones x = prepared(20);
        CHECK.is(what + ": kind of refusal", due, kindOf(x, call));
        statusIs(what, x, due);
        CHECK.isTrue(what + ": nothing else is changed", UNTOUCHED.equals(story(x)));
        statusIs(what, x, due);
    }

    /** A question that is taken: it is not counted, and changes nothing either. */
    private static void taken(String what, Function<FieldStones, Number> call) {
        FieldStones x = prepared(20);
        CHECK.is(what + ": taken", -1, kindOf(x, call));
        statusIs(what, x, -1);
        CHECK.isTrue(what + ": asked, nothing is changed", UNTOUCHED.equals(story(x)));
    }

    private static void refusedWhat(String name, int most, WithNumber call) {
        for (int what : new int[] {-1, most + 1, LOWEST, HIGHEST}) {
            refused(name + ", what " + what, ARGUMENT, x -> call.on(x, what));
        }
        for (int what = 0; what <= most; what++) {
            int good = what;
            taken(name + ", what " + what, x -> call.on(x, good));
        }
    }

    private interface WithNumber {
        Number on(FieldStones x, int number);
    }

    /** A number from low to high, both taken, and what is beside them refused. */
    private static void refusedNumber(String name, int low, int high, WithNumber call) {
        for (int number : new int[] {low - 1, high + 1, LOWEST, HIGHEST}) {
            refused(name + " " + number, ARGUMENT, x -> call.on(x, number));
        }
        taken(name + " " + low, x -> call.on(x, low));
        taken(name + " " + high, x -> call.on(x, high));
    }

    private interface WithCell {
        Number on(FieldStones x, int column, int row);
    }

    private static void refusedCell(String name, WithCell call) {
        for (int number : new int[] {-1, 2, LOWEST, HIGHEST}) {
            refused(name + ", X " + number, CELL, x -> call.on(x, number, 0));
            refused(name + ", Y " + number, CELL, x -> call.on(x, 0, number));
        }
        refused(name + ", X and Y", CELL, x -> call.on(x, 2, 2));
        taken(name + ", the first", x -> call.on(x, 0, 0));
        taken(name + ", the last", x -> call.on(x, 1, 1));
    }

    private static void refusedStone(String name, WithNumber call) {
        // Four stones, and one that rose in each of two cells.
        for (int stone : new int[] {-1, 6, 60, LOWEST, HIGHEST}) {
            refused(name + " " + stone, STONE, x -> call.on(x, stone));
        }
        taken(name + " 0", x -> call.on(x, 0));
        taken(name + " 5", x -> call.on(x, 5));
    }

    private static void texts() {
        for (int n : new int[] {-1, 21, LOWEST, HIGHEST}) {
            refused("3: field, n " + n, ARGUMENT, x -> x.field(n));
            refused("4: law 0, n " + n, ARGUMENT, x -> x.law(0, n));
            refused("4: law 1, n " + n, ARGUMENT, x -> x.law(1, n));
            refused("5: work, n " + n, ARGUMENT, x -> x.work(n));
            refused("6: book, n " + n, ARGUMENT, x -> x.book(n));
        }
        for (int which : new int[] {-1, 2, LOWEST, HIGHEST}) {
            refused("4: law, another which " + which, ARGUMENT, x -> x.law(which, 20));
            refused("4: law, both wrong, which " + which, ARGUMENT, x -> x.law(which, 21));
        }
        for (int n : new int[] {0, 20}) {
            isRead("3: field", n, x -> x.field(n));
            isRead("4: law 0", n, x -> x.law(0, n));
            isRead("4: law 1", n, x -> x.law(1, n));
            isRead("5: work", n, x -> x.work(n));
            isRead("6: book", n, x -> x.book(n));
        }
    }

    private static void isRead(String what, int n, Function<FieldStones, Number> call) {
        FieldStones x = prepared(20);
        CHECK.is(what + ", n " + n + ": taken", -1, kindOf(x, call));
        CHECK.is(what + ", n " + n + ": the tape is empty then", 0, x.count(1));
        statusIs(what + ", n " + n, x, -1);
    }

    /** More bytes than a text may have, though the tape has them; and as many as it may. */
    private static void longTexts() {
        longText("3: field", 600, HIGHEST, (x, n) -> x.field(n));
        longText("3: field", 600, 601, (x, n) -> x.field(n));
        longText("4: law 0", 150, 151, (x, n) -> x.law(0, n));
        longText("4: law 1", 150, 151, (x, n) -> x.law(1, n));
        longText("5: work", 200, 201, (x, n) -> x.work(n));
        longText("6: book", 100, 101, (x, n) -> x.book(n));
        longText("4: law 0", 140, 141, (x, n) -> x.law(0, n));
        longText("5: work", 180, 181, (x, n) -> x.work(n));
        longText("6: book", 80, 81, (x, n) -> x.book(n));
    }

    private static void longText(String what, int most, int n, WithNumber call) {
        int bytes = most == 150 ? 160 : most == 200 || most == 100 ? most + 20 : most;
        FieldStones x = prepared(bytes);
        CHECK.is(what + ": of " + bytes + " bytes " + n + " are refused", ARGUMENT, kindOf(x, z -> call.on(z, n)));
        statusIs(what, x, ARGUMENT);
        CHECK.is(what + ": the tape stays", bytes, x.count(1));
        CHECK.is(what + ": the fault stays", 1, x.fault());
        CHECK.is(what + ": and " + most + " are taken", -1, kindOf(x, z -> call.on(z, most)));
        statusIs(what, x, ARGUMENT);
        CHECK.is(what + ": the tape is empty then", 0, x.count(1));
    }

    private static void whatIsTold() {
        refusedWhat("9: told", 9, (x, what) -> x.told(what));
        refusedStone("10: stone", (x, stone) -> x.stone(stone, 0));
        refusedWhat("10: stone", 4, (x, what) -> x.stone(5, what));
        refused("10: no such stone, and no such what", STONE, x -> x.stone(6, 5));
        refusedCell("11: cell", (x, column, row) -> x.cell(column, row, 0));
        refusedWhat("11: cell", 4, (x, what) -> x.cell(1, 1, what));
        refused("11: no such cell, ahead of no such what", CELL, x -> x.cell(2, 0, 5));
        refused("11: no such cell, ahead of no such what", CELL, x -> x.cell(0, -1, -1));
        refusedWhat("12: sledge", 2, (x, what) -> x.sledge(what));
        refusedWhat("13: sums", 3, (x, what) -> x.sums(what));
    }

    private static void cells() {
        refusedCell("14: damage", (x, column, row) -> x.damage(column, row, 1));
        refusedNumber("14: damage, size", 1, 9, (x, size) -> x.damage(1, 1, size));
        refused("14: no such cell, ahead of no such size", CELL, x -> x.damage(0, 2, 0));
        refusedCell("15: rises", (x, column, row) -> x.rises(column, row));
        refusedStone("16: clear", (x, stone) -> x.clear(stone));
        refusedCell("29: lifts", (x, column, row) -> x.lifts(column, row));
        refusedCell("30: loads", (x, column, row) -> x.loads(column, row));
    }

    private static void plans() {
        refusedNumber("17: stops, row", 0, 1, (x, row) -> x.stops(row, 0));
        refusedWhat("17: stops", 2, (x, what) -> x.stops(0, what));
        refused("17: neither such a row nor such a what", ARGUMENT, x -> x.stops(2, 3));
        refusedWhat("18: way", 1, (x, what) -> x.way(what));
        refusedNumber("19: heaps, years", 0, 60, (x, years) -> x.heaps(years, 0));
        refusedWhat("19: heaps", 1, (x, what) -> x.heaps(0, what));
        refusedNumber("20: line, years", 0, 60, (x, years) -> x.line(years, 0));
        refusedWhat("20: line", 1, (x, what) -> x.line(60, what));
        refusedNumber("21: first, minutes", 0, 999, (x, minutes) -> x.first(minutes, 0));
        refusedWhat("21: first", 2, (x, what) -> x.first(999, what));
    }

    private static void mixes() {
        refusedNumber("22: mix, minutes", 1, 9999, (x, minutes) -> x.mix(minutes, 0, 0, 0));
        refusedNumber("22: mix, a lad", 0, 99, (x, lad) -> x.mix(1, lad, 0, 0));
        refusedNumber("22: mix, a horse", 0, 99, (x, horse) -> x.mix(1, 0, horse, 0));
        refusedWhat("22: mix", 2, (x, what) -> x.mix(9999, 99, 99, what));
        refused("22: all of them wrong", ARGUMENT, x -> x.mix(0, 100, 100, 3));
    }

    private static void years() {
        refusedNumber("23: enough, minutes", 0, 9999, (x, minutes) -> x.enough(minutes, 0));
        refusedNumber("23: enough, n", 0, 60, (x, n) -> x.enough(0, n));
        refusedNumber("24: left, minutes", 0, 9999, (x, minutes) -> x.left(minutes, 30));
        refusedNumber("24: left, years", 1, 30, (x, years) -> x.left(9999, years));
        taken("25: fits", x -> x.fits());
        refusedNumber("26: frost, Q", 0, 16, (x, q) -> x.frost(1, q, 1, 0));
        refusedNumber("26: frost, winters", 1, 20, (x, winters) -> x.frost(1, 8, winters, 0));
        refusedWhat("26: frost", 2, (x, what) -> x.frost(1, 8, 20, what));
        taken("26: frost, the least seed", x -> x.frost(LOWEST, 16, 20, 2));
        taken("26: frost, the highest seed", x -> x.frost(HIGHEST, 16, 20, 2));
        refusedNumber("27: span, seeds", 1, 20, (x, many) -> x.span(1, many, 8, 1, 0, 0));
        refusedNumber("27: span, Q", 0, 16, (x, q) -> x.span(1, 1, q, 1, 0, 0));
        refusedNumber("27: span, winters", 1, 20, (x, winters) -> x.span(1, 1, 8, winters, 0, 0));
        refusedNumber("27: span, n", 0, 60, (x, n) -> x.span(1, 1, 8, 1, n, 2));
        refusedWhat("27: span", 2, (x, what) -> x.span(1, 20, 8, 20, 60, what));
        taken("27: span, the highest seed", x -> x.span(HIGHEST, 20, 8, 1, 0, 1));
    }

    private static void choices() {
        refusedWhat("28: chosen", 1, (x, what) -> x.chosen(what));
        taken("31: stoniest", x -> x.stoniest());
        taken("32: clean", x -> x.clean());
        for (int what : new int[] {-1, 3, LOWEST, HIGHEST}) {
            taken("35: status, NONE for others", x -> x.status(what));
            taken("36: count, NONE for others", x -> x.count(what));
            FieldStones x = prepared(20);
            CHECK.is("35: NONE for others", -1, x.status(what));
            CHECK.is("36: NONE for others", -1, x.count(what));
        }
    }

    /** What can't be done is answered by a number here: status counts none of it. */
    private static void answered() {
        FieldStones full = prepared(600);
        CHECK.is("2: more than 600 bytes", -1, full.feed(1, 2, 3, 4, 5));
        CHECK.is("2: doing nothing", 600, full.count(1));
        CHECK.is("2: doing nothing", 1, full.fault());
        statusIs("2: a full tape", full, -1);
        CHECK.is("2: the bytes are the same", 1, full.field(600));
        CHECK.is("2: the bytes are the same", 7, full.stone(0, 2));
        FieldStones x = new FieldStones();
        x.undo();
        x.restore();
        Check.field(x, "field 9 9;");
        Check.law(x, 0, "(");
        Check.law(x, 1, "1000");
        Check.work(x, "to");
        Check.book(x, "x");
        for (int i = 0; i < 4; i++) {
            x.image();
        }
        for (int i = 0; i < 21; i++) {
            x.work(0);
        }
        for (int kind = 0; kind < 3; kind++) {
            CHECK.is("35: faults, -1 and -20 are no refusals", 0, x.status(kind));
        }
    }
}
