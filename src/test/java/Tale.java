/**
 * What an object tells of itself, as a text to compare. Of a field of four cells and eight stones it takes some 90
 * calls: the document promises nothing behind an object's 512th.
 */
final class Tale {
    private final FieldStones told;
    private final StringBuilder text = new StringBuilder();

    private Tale(FieldStones told) {
        this.told = told;
    }

    /** All that work changes. */
    static String ofWork(FieldStones x) {
        Tale tale = new Tale(x);
        tale.tellWork();
        return tale.text.toString();
    }

    /** All but what status counts. */
    static String ofAll(FieldStones x) {
        Tale tale = new Tale(x);
        tale.tellWork();
        tale.tellTexts();
        return tale.text.toString();
    }

    private void add(long answer) {
        text.append(answer).append(' ');
    }

    private void tellWork() {
        for (int what = 2; what < 8; what++) {
            add(told.told(what));
        }
        for (int what = 0; what < 4; what++) {
            add(told.sums(what));
        }
        for (int what = 0; what < 3; what++) {
            add(told.sledge(what));
        }
        for (int stone = 0; stone < told.told(2); stone++) {
            for (int what = 0; what < 5; what++) {
                add(told.stone(stone, what));
            }
            add(told.clear(stone));
        }
        for (int y = 0; y < told.told(1); y++) {
            for (int x = 0; x < told.told(0); x++) {
                for (int what = 0; what < 5; what++) {
                    add(told.cell(x, y, what));
                }
            }
        }
    }

    private void tellTexts() {
        add(told.told(8));
        add(told.told(9));
        add(told.fault());
        for (int what = 0; what < 3; what++) {
            add(told.count(what));
        }
        add(told.damage(0, 0, 1));
        add(told.damage(told.told(0) - 1, told.told(1) - 1, 9));
        add(told.rises(0, 0));
        add(told.rises(told.told(0) - 1, told.told(1) - 1));
        add(told.fits());
    }
}
