/** Promises 8 and 33 to 36: undone work, images, refusals and counts. */
public final class PastTest {
    private static final Check CHECK = new Check();

    public static void main(String[] args) {
        undoneOne();
        undoneAll();
        whatUndoLeaves();
        twentyUndone();
        refusedSteps();
        images();
        whatFieldsDoToImages();
        imagesKeepWorks();
        imagesStack();
        imagesKeepTwentyWorks();
        imagesKeepYears();
        whatNoImageKeeps();
        status();
        counts();
        toTheLastCall();
        CHECK.end();
    }

    /** One stone rises each winter, in cell 2 1. */
    private static FieldStones worked() {
        FieldStones x = Check.field("field 3 2;stone 0 0 4;stone 1 0 9;stone 2 1 2;");
        Check.law(x, 1, "x / 2 * y");
        return x;
    }

    private static final String[] WORKS = {"lift 0 0;", "to 1 0;heap;", "winter;", "round 2 1;bar;", "", "to 2 1;"
        + "lift 2 1;lift 2 1;wall;", "again 3 [winter;];", "bar;wall;"};

    private static void undoneOne() {
        for (int latest = 0; latest < WORKS.length; latest++) {
            FieldStones x = worked();
            for (int i = 0; i < latest; i++) {
                Check.work(x, WORKS[i]);
            }
            String before = Tale.ofWork(x);
            CHECK.isTrue("8: done", Check.work(x, WORKS[latest]) >= 0);
            CHECK.is("36: works", latest + 1, x.count(2));
            CHECK.is("8: how many are left", latest, x.undo());
            CHECK.is("36: works", latest, x.count(2));
            CHECK.isTrue("8: as it was ahead of work " + latest, before.equals(Tale.ofWork(x)));
            CHECK.is("9: refused", 0, x.told(9));
        }
    }

    private static void undoneAll() {
        FieldStones x = worked();
        String first = Tale.ofWork(x);
        CHECK.is("8: there is none", -1, x.undo());
        for (String work : WORKS) {
            Check.work(x, work);
        }
        CHECK.is("5: a fault", -9, Check.work(x, "winter"));
        CHECK.is("8: a fault is no work", WORKS.length, x.count(2));
        for (int left = WORKS.length - 1; left >= 0; left--) {
            CHECK.is("8: how many are left", left, x.undo());
        }
        CHECK.isTrue("8: as at first", first.equals(Tale.ofWork(x)));
        CHECK.is("8: there is none", -1, x.undo());
        CHECK.isTrue("8: -1 changes nothing", first.equals(Tale.ofWork(x)));
    }

    private static void whatUndoLeaves() {
        FieldStones x = worked();
        Check.work(x, "bar;bar;");
        CHECK.is("9: two refused", 2, x.told(9));
        x.undo();
        CHECK.is("9: undone", 0, x.told(9));
        Check.work(x, "");
        CHECK.is("8: of no steps, too", 0, x.undo());
        Check.work(x, "bar;");
        CHECK.is("8: with all of them refused, too", 0, x.undo());
        Check.work(x, "winter");
        CHECK.is("8: there is none", -1, x.undo());
        Check.work(x, "bar;");
        Check.field(x, "x");
        CHECK.is("8: a field with a fault keeps it", 0, x.undo());
        Check.work(x, "bar;");
        x.undo();
        CHECK.is("9: refused by a work undone", 0, x.told(9));
        Check.work(x, "bar;");
        Check.law(x, 0, "3");
        Check.book(x, "0 0 1;");
        x.feed(0, 0, 0, 0, 0);
        x.image();
        x.undo();
        CHECK.is("8: the law stays", 3, x.damage(0, 0, 9));
        CHECK.is("8: the book stays", 1, x.told(8));
        CHECK.is("8: the tape stays", 20, x.count(1));
        CHECK.is("8: the image stays", 1, x.count(0));
        Check.work(x, "winter;");
        Check.field(x, "field 3 2;");
        CHECK.is("3: a field leaves nothing to undo", -1, x.undo());
    }

    private static void twentyUndone() {
        FieldStones x = new FieldStones();
        for (int i = 0; i < 20; i++) {
            Check.work(x, "winter;");
        }
        CHECK.is("5: the 21st", -20, Check.work(x, "winter;"));
        for (int left = 19; left >= 0; left--) {
            CHECK.is("8: how many are left", left, x.undo());
            CHECK.is("8: the year", left, x.told(7));
        }
        CHECK.is("8: there is none", -1, x.undo());
    }

    private static void refusedAre(String what, FieldStones x, int due) {
        CHECK.is("9: refused " + what, due, x.told(9));
    }

    private static void refusedSteps() {
        FieldStones x = new FieldStones();
        refusedAre("ahead of any work", x, 0);
        Check.work(x, "bar;wall;winter;heap;");
        refusedAre("by the latest work", x, 3);
        Check.field(x, "bar 31;");
        refusedAre("behind a field's fault", x, 3);
        Check.law(x, 0, "(");
        Check.law(x, 1, "");
        refusedAre("behind a law's fault", x, 3);
        Check.law(x, 0, "1");
        Check.law(x, 1, "0");
        refusedAre("behind laws", x, 3);
        Check.book(x, "0 0 61;");
        refusedAre("behind a book's fault", x, 3);
        Check.book(x, "0 0 60;");
        refusedAre("behind a book", x, 3);
        Check.work(x, "bar;bar");
        refusedAre("behind a work's fault", x, 3);
        CHECK.noArgument("5: too many bytes", () -> x.work(1));
        CHECK.noArgument("3: too many bytes", () -> x.field(1));
        refusedAre("behind exceptions", x, 3);
        x.restore();
        refusedAre("behind a -1 of restore", x, 3);
        for (int i = 0; i < 4; i++) {
            x.image();
        }
        refusedAre("behind images and a -1 of them", x, 3);
        x.restore();
        refusedAre("behind restore", x, 0);
        Check.work(x, "bar;");
        refusedAre("by the latest work", x, 1);
        x.work(0);
        refusedAre("by a work of no steps", x, 0);
        Check.work(x, "bar;");
        x.undo();
        refusedAre("behind undo, whatever the work before it had", x, 0);
        for (int i = 0; i < 20; i++) {
            Check.work(x, "bar;bar;");
        }
        CHECK.is("5: -20", -20, x.work(0));
        refusedAre("behind -20", x, 2);
        Check.field(x, "");
        refusedAre("behind a field", x, 0);
    }

    private static void images() {
        FieldStones x = worked();
        CHECK.is("34: there is none", -1, x.restore());
        Check.work(x, "lift 0 0;winter;bar;bar;");
        String then = Tale.ofWork(x);
        CHECK.is("33: one", 1, x.image());
        CHECK.is("9: an image leaves the refused", 2, x.told(9));
        Check.work(x, "wall;winter;round 0 0;to 1 1;bar;");
        CHECK.isTrue("5: changed", !then.equals(Tale.ofWork(x)));
        CHECK.is("34: none is left", 0, x.restore());
        CHECK.isTrue("34: all as then", then.equals(Tale.ofWork(x)));
        CHECK.is("9: refused", 0, x.told(9));
        Check.work(x, "bar;");
        CHECK.is("34: it is gone", -1, x.restore());
        CHECK.is("9: -1 leaves the refused", 1, x.told(9));
    }

    private static void whatFieldsDoToImages() {
        FieldStones x = worked();
        x.image();
        Check.field(x, "x");
        CHECK.is("3: a field with a fault keeps the images", 1, x.count(0));
        Check.field(x, "stone 0 0 1;");
        CHECK.is("3: a field takes the images", -1, x.restore());
        CHECK.is("33: the first one again", 1, x.image());
    }

    private static void imagesKeepWorks() {
        FieldStones x = Check.field("field 2 1;stone 0 0 4;");
        String first = Tale.ofWork(x);
        Check.work(x, "winter;");
        String second = Tale.ofWork(x);
        Check.work(x, "lift 0 0;");
        x.image();
        x.undo();
        x.undo();
        CHECK.isTrue("8: as at first", first.equals(Tale.ofWork(x)));
        Check.law(x, 1, "2");
        Check.work(x, "winter;round 0 0;");
        Check.work(x, "winter;");
        Check.work(x, "winter;");
        CHECK.is("36: works", 3, x.count(2));
        CHECK.is("34: restore", 0, x.restore());
        CHECK.is("36: works of then", 2, x.count(2));
        CHECK.is("8: undo", 1, x.undo());
        CHECK.isTrue("8: as it was then", second.equals(Tale.ofWork(x)));
        CHECK.is("8: undo", 0, x.undo());
        CHECK.isTrue("8: as it was at first", first.equals(Tale.ofWork(x)));
    }

    private static void imagesStack() {
        FieldStones x = Check.field("field 2 1;stone 0 0 4;");
        String[] then = new String[3];
        for (int i = 0; i < 3; i++) {
            then[i] = Tale.ofWork(x);
            CHECK.is("33: how many", i + 1, x.image());
            Check.work(x, "winter;");
        }
        Check.work(x, "bar;");
        String last = Tale.ofWork(x);
        CHECK.is("33: there are 3", -1, x.image());
        CHECK.isTrue("33: -1 changes nothing", last.equals(Tale.ofWork(x)));
        CHECK.is("9: -1 leaves the refused", 1, x.told(9));
        CHECK.is("36: images", 3, x.count(0));
        for (int i = 2; i >= 0; i--) {
            CHECK.is("34: how many are left", i, x.restore());
            CHECK.isTrue("34: the latest", then[i].equals(Tale.ofWork(x)));
            CHECK.is("36: works", i, x.count(2));
        }
        CHECK.is("34: there is none", -1, x.restore());
        CHECK.is("33: one again", 1, x.image());
    }

    private static void imagesKeepTwentyWorks() {
        FieldStones full = new FieldStones();
        for (int i = 0; i < 20; i++) {
            Check.work(full, "winter;");
        }
        full.image();
        for (int i = 0; i < 20; i++) {
            full.undo();
        }
        full.restore();
        CHECK.is("33: all twenty works", 20, full.count(2));
        CHECK.is("5: -20", -20, full.work(0));
        for (int i = 19; i >= 0; i--) {
            full.undo();
            CHECK.is("8: the year", i, full.told(7));
        }
    }

    /** Number 0 comes in the year 2; undone and done anew by another law it comes in the year 1, elsewhere. */
    private static void imagesKeepYears() {
        FieldStones x = Check.field("field 2 1;");
        Check.law(x, 1, "(year-1)*x");
        Check.work(x, "winter;winter;");
        x.image();
        x.undo();
        Check.law(x, 1, "1-x");
        Check.work(x, "winter;");
        stoneIs("anew", x, 0, 0, 8, 1, 0);
        x.restore();
        stoneIs("restored", x, 1, 0, 9, 2, 0);
        Check.law(x, 1, "0");
        Check.work(x, "winter;lift 1 0;to 1 0;bar;heap;");
        stoneIs("in a heap", x, 1, 0, 9, 2, 3);
        x.undo();
        stoneIs("undone", x, 1, 0, 9, 2, 0);
        x.undo();
        CHECK.is("8: as at first", 0, x.told(2));
    }

    private static void stoneIs(String what, FieldStones x, int... due) {
        for (int i = 0; i < due.length; i++) {
            CHECK.is("10: number 0, " + what + ", what " + i, due[i], x.stone(0, i));
        }
    }

    private static void whatNoImageKeeps() {
        FieldStones x = worked();
        Check.law(x, 0, "3");
        Check.book(x, "0 0 1;");
        x.image();
        Check.law(x, 0, "4");
        Check.law(x, 1, "2");
        Check.book(x, "0 0 1;1 0 1;");
        CHECK.noArgument("35: one", () -> x.told(10));
        Check.law(x, 0, "(");
        x.feed(0, 0, 0, 0, 0);
        x.restore();
        CHECK.is("33: not the law", 4, x.damage(0, 0, 9));
        CHECK.is("33: not the other one", 2, x.rises(0, 0));
        CHECK.is("33: not the book", 2, x.told(8));
        CHECK.is("33: not the fault", 1, x.fault());
        CHECK.is("33: not the tape", 20, x.count(1));
        CHECK.is("35: not the refusals", 1, x.status(2));
        x.work(0);
        x.undo();
        CHECK.is("8: undone, the law stays", 4, x.damage(0, 0, 9));
    }

    private static void status() {
        FieldStones x = new FieldStones();
        CHECK.noCell("35: a cell", () -> x.cell(6, 0, 9));
        CHECK.noStone("35: a stone", () -> x.stone(0, 9));
        CHECK.noStone("35: a stone", () -> x.clear(0));
        CHECK.noArgument("35: an argument", () -> x.told(-1));
        CHECK.noArgument("35: an argument", () -> x.chosen(2));
        CHECK.noArgument("35: an argument", () -> x.work(1));
        for (int i = 0; i < 3; i++) {
            CHECK.is("35: by reason", i + 1, x.status(i));
        }
        Check.field(x, "bar");
        x.undo();
        CHECK.is("35: a fault is none", 3, x.status(2));
        Check.field(x, "");
        CHECK.is("35: no field forgets them", 1, x.status(0));
        CHECK.is("35: others", -1, x.status(3));
        CHECK.is("35: others", -1, x.status(-1));
        CHECK.is("35: others are no refusals", 3, x.status(2));
    }

    private static void counts() {
        FieldStones x = new FieldStones();
        x.feed(0, 0, 0, 0, 0);
        x.feed(0, 0, 0, 0, 0);
        x.image();
        CHECK.is("36: images", 1, x.count(0));
        CHECK.is("36: bytes", 40, x.count(1));
        x.work(0);
        CHECK.is("36: works", 1, x.count(2));
        CHECK.is("36: no bytes", 0, x.count(1));
        CHECK.is("36: others", -1, x.count(3));
        CHECK.is("36: others", -1, x.count(-1));
        CHECK.is("35: others are no refusals", 0, x.status(2));
    }

    /** An object is used for at most 512 calls: the last one answers as the first. */
    private static void toTheLastCall() {
        FieldStones x = new FieldStones();
        for (int i = 0; i < 255; i++) {
            CHECK.is("33: image", 1, x.image());
            CHECK.is("34: restore", 0, x.restore());
        }
        CHECK.noCell("35: the 511th call is refused", () -> x.rises(0, 4));
        CHECK.is("35: the 512th call", 1, x.status(0));
    }
}
