/** Texts for the random runs: mostly sound ones, now and then with a byte changed, lost or put in. */
final class Texts {
    private final Dice dice;
    private int w = 6;
    private int h = 4;

    Texts(Dice dice) {
        this.dice = dice;
    }

    /** The cells of the field that stands, for the texts that come behind it. */
    void sizes(int width, int height) {
        w = width;
        h = height;
    }

    private String blank() {
        return dice.once(12) ? " " : "";
    }

    private String number(int low, int high) {
        if (dice.once(400)) {
            return " " + (dice.once(2) ? high + 1 : 99999999999L);
        }
        return (dice.once(40) ? " 00" : " ") + dice.from(low, high) + blank();
    }

    private String cell() {
        return number(0, w - 1) + number(0, h - 1);
    }

    private String spoilt(String text) {
        if (text.isEmpty() || !dice.once(8)) {
            return text;
        }
        int at = dice.below(text.length());
        String[] bits = {"", "x", "]", "(", ";", " ", "7", "stone", "if", "again", "" + (char) 233, "" + (char) 0};
        return text.substring(0, at) + bits[dice.below(bits.length)] + text.substring(at + dice.below(2));
    }

    String field() {
        StringBuilder text = new StringBuilder(blank());
        w = 6;
        h = 4;
        if (!dice.once(4)) {
            boolean small = dice.once(2);
            w = dice.from(1, small ? 4 : 8);
            h = dice.from(1, small ? 3 : 6);
            text.append("field ").append(w).append(' ').append(h).append(';');
        }
        int most = dice.once(8) ? 70 : dice.below(40);
        boolean isShort = most == 70 && dice.once(2);
        for (int i = 0; i < most; i++) {
            String clause = isShort ? "bar " + dice.from(1, 9) + ";" : blank() + clause();
            if (text.length() + clause.length() > 600) {
                break;
            }
            text.append(clause);
        }
        return spoilt(text.append(blank()).toString());
    }

    private String clause() {
        switch (dice.below(dice.once(300) ? 7 : 6)) {
            case 0:
                return "soil" + cell() + number(0, dice.once(2) ? 99 : 9) + ";";
            case 1:
                return dice.once(3) ? "lads" + number(1, 6) + number(1, 9) + number(1, 9) + ";" : "bar" + number(1, 30) + ";";
            case 2:
                return dice.once(3) ? "sledge" + number(0, dice.once(2) ? 60 : 6) + number(1, 9) + number(1, 99) + ";"
                    : "stone" + cell() + number(1, 9) + ";";
            case 6:
                return "field 3 3;";
            default:
                return "stone" + cell() + number(1, 9) + ";";
        }
    }

    String law() {
        String text = blank() + sum(0);
        if (dice.once(10)) {
            text = nested(dice.from(4, 7), text);
        }
        return spoilt(text.length() > 150 ? "size" : text);
    }

    private String nested(int depth, String text) {
        if (depth == 0) {
            return text;
        }
        String inner = nested(depth - 1, text);
        return dice.once(2) ? "(" + inner + ")" : dice.once(2) ? "if[" + inner + ",1,2]" : "if[y,x," + inner + "]";
    }

    private String sum(int depth) {
        StringBuilder text = new StringBuilder(product(depth));
        while (dice.once(2)) {
            text.append(blank()).append(dice.once(2) ? "+" : "-").append(product(depth));
        }
        return text.toString();
    }

    private String product(int depth) {
        StringBuilder text = new StringBuilder(part(depth));
        while (dice.once(3)) {
            text.append(blank()).append("*/%".charAt(dice.below(3))).append(part(depth));
        }
        return text.toString();
    }

    private String part(int depth) {
        String[] names = {"size", "soil", "year", "many", "x", "y", "all"};
        int kind = dice.below(depth > 6 ? 6 : 8);
        if (kind < 3) {
            return number(0, dice.once(3) ? 999 : 9);
        }
        if (kind < 6) {
            return blank() + names[dice.below(7)];
        }
        if (kind == 6) {
            return blank() + "(" + sum(depth + 1) + blank() + ")";
        }
        return "if[" + sum(depth + 1) + "," + sum(depth + 1) + blank() + "," + sum(depth + 1) + "]";
    }

    String work() {
        StringBuilder text = new StringBuilder();
        if (dice.once(12)) {
            int depth = dice.from(4, 7);
            String last = dice.once(2) ? step(9) : "";
            return spoilt("again 2[".repeat(depth) + last + "];".repeat(depth));
        }
        int most = dice.below(14);
        for (int i = 0; i < most; i++) {
            String step = blank() + step(0);
            if (text.length() + step.length() > 200) {
                break;
            }
            text.append(step);
        }
        return spoilt(text.append(blank()).toString());
    }

    private String step(int depth) {
        switch (dice.below(12)) {
            case 0, 1:
                return "to" + cell() + ";";
            case 2, 3, 4, 5:
                return "lift" + cell() + ";";
            case 6:
                return "bar;";
            case 7:
                return "wall;";
            case 8:
                return dice.once(3) ? "heap;" : "to" + cell() + ";";
            case 9:
                return dice.once(6) ? "round" + cell() + ";" : "winter ;";
            case 10:
                return "winter;";
            default:
                return depth > 7 ? "bar;" : again(depth);
        }
    }

    private String again(int depth) {
        StringBuilder text = new StringBuilder("again" + number(0, dice.once(2) ? 20 : 3) + "[");
        while (!dice.once(3)) {
            text.append(step(depth + 1));
        }
        return text.append(blank()).append("];").toString();
    }

    String book() {
        StringBuilder text = new StringBuilder();
        int most = dice.below(dice.once(5) ? 8 : 5);
        for (int i = 0; i < most; i++) {
            text.append(blank()).append(cell()).append(number(0, dice.once(5) ? 60 : 4)).append(';');
        }
        return spoilt(text.append(blank()).toString());
    }
}
