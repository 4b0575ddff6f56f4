import java.util.NoSuchElementException;

/**
 * Runs of thrown calls, sound and wrong ones, on the program and on the plain model of the document: each answer, each
 * exception is to be the same. How many runs, and from which seed on, may be told as two numbers.
 */
public final class RandomRunsTest {
    /** The document promises nothing behind so many calls of one object. */
    private static final int MOST_CALLS = 512;
    /** A text takes 31 calls at most to feed, one to be read, and one for its fault. */
    private static final int CALLS_OF_A_STEP = 33;

    private interface Call {
        long run();
    }

    private final Dice dice;
    private final Texts texts;
    private final FieldStones program = new FieldStones();
    private final Model model = new Model();
    private final StringBuilder story = new StringBuilder();
    private int calls;
    private int w = 6;
    private int h = 4;
    private boolean isWrong;

    private RandomRunsTest(long seed) {
        dice = new Dice(seed);
        texts = new Texts(dice);
    }

    public static void main(String[] args) {
        int runs = args.length > 0 ? Integer.parseInt(args[0]) : 1500;
        int from = args.length > 1 ? Integer.parseInt(args[1]) : 1;
        for (int seed = from; seed < from + runs; seed++) {
            RandomRunsTest test = new RandomRunsTest(seed);
            test.run();
            if (test.isWrong) {
                System.out.println("seed " + seed + ":\n" + test.story);
                System.exit(1);
            }
        }
        System.out.println(runs + " random runs are alike");
    }

    private void run() {
        if (!dice.once(10)) {
            text(0, texts.field());
            if (dice.once(2)) {
                text(1, texts.law());
            }
            if (dice.once(2)) {
                text(2, texts.law());
            }
        }
        while (calls <= MOST_CALLS - CALLS_OF_A_STEP && !isWrong) {
            step();
        }
        // A question takes two calls at most.
        while (calls < MOST_CALLS - 1 && !isWrong) {
            questions();
        }
    }

    private void step() {
        int kind = dice.below(60);
        if (kind == 0 && dice.once(2)) {
            text(0, texts.field());
        } else if (kind < 5) {
            text(dice.from(1, 2), texts.law());
        } else if (kind < 14) {
            text(3, texts.work());
        } else if (kind < 16) {
            text(4, texts.book());
        } else if (kind < 30) {
            changesAndTales();
        } else {
            questions();
        }
    }

    /** What a call answers, or how it throws, as one text. */
    private static String answer(Call call) {
        try {
            return Long.toString(call.run());
        } catch (IndexOutOfBoundsException e) {
            return e.getClass() == IndexOutOfBoundsException.class ? "no such cell" : e.toString();
        } catch (NoSuchElementException e) {
            return e.getClass() == NoSuchElementException.class ? "no such stone" : e.toString();
        } catch (IllegalArgumentException e) {
            return e.getClass() == IllegalArgumentException.class ? "wrong argument" : e.toString();
        } catch (RuntimeException e) {
            return e.toString();
        }
    }

    private void same(String told, Call ofProgram, Call ofModel) {
        calls++;
        String one = answer(ofProgram);
        String other = answer(ofModel);
        story.append(told).append(" -> ").append(one).append('\n');
        if (!one.equals(other) && !other.equals(Long.toString(Model.UNKNOWN))) {
            isWrong = true;
            story.append("  the model: ").append(other).append('\n');
        }
    }

    private void feed(String text) {
        for (int i = 0; i < text.length(); i += 20) {
            int[] v = new int[5];
            for (int k = 0; k < 20; k++) {
                int sign = i + k < text.length() ? text.charAt(i + k) : ' ';
                v[k / 4] = v[k / 4] << 8 | sign;
            }
            same("feed", () -> program.feed(v[0], v[1], v[2], v[3], v[4]), () -> model.feed(v));
        }
    }

    private void text(int kind, String text) {
        feed(text);
        int n = dice.once(60) ? dice.from(-2, text.length() + 30) : text.length();
        String told = "'" + text + "' " + n;
        switch (kind) {
            case 0 -> {
                same("field " + told, () -> program.field(n), () -> model.field(n));
                w = model.told(0);
                h = model.told(1);
                texts.sizes(w, h);
            }
            case 1, 2 -> {
                int which = dice.once(80) ? dice.from(-1, 2) : kind - 1;
                same("law " + which + " " + told, () -> program.law(which, n), () -> model.law(which, n));
            }
            case 3 -> same("work " + told, () -> program.work(n), () -> model.work(n));
            default -> same("book " + told, () -> program.book(n), () -> model.book(n));
        }
        same("fault", program::fault, model::fault);
    }

    private int what(int most) {
        return dice.once(50) ? dice.from(-2, most + 2) : dice.from(0, most);
    }

    private int cellNumber(int many) {
        return dice.once(20) ? dice.from(-1, 8) : dice.below(many);
    }

    private void changesAndTales() {
        int kind = dice.below(14);
        int what = what(4);
        int small = what(2);
        int x = cellNumber(w);
        int y = cellNumber(h);
        int stone = dice.once(20) ? dice.from(-1, 61) : dice.below(Math.max(1, model.told(2)));
        switch (kind) {
            case 0 -> same("undo", program::undo, model::undo);
            case 1 -> same("image", program::image, model::image);
            case 2 -> same("restore", program::restore, model::restore);
            case 3 -> same("status " + small, () -> program.status(small), () -> model.status(small));
            case 4 -> same("count " + small, () -> program.count(small), () -> model.count(small));
            case 5, 6 -> {
                int other = what(9);
                same("told " + other, () -> program.told(other), () -> model.told(other));
            }
            case 7, 8 -> same("stone " + stone + " " + what, () -> program.stone(stone, what),
                    () -> model.stone(stone, what));
            case 9, 10 -> same("cell " + x + " " + y + " " + what, () -> program.cell(x, y, what),
                    () -> model.cell(x, y, what));
            case 11 -> same("sledge " + small, () -> program.sledge(small), () -> model.sledge(small));
            case 12 -> {
                int sum = what(3);
                same("sums " + sum, () -> program.sums(sum), () -> model.sums(sum));
            }
            default -> same("clear " + stone, () -> program.clear(stone), () -> model.clear(stone));
        }
    }

    private void questions() {
        int what = what(2);
        int either = what(1);
        int x = cellNumber(w);
        int y = cellNumber(h);
        int years = dice.once(30) ? dice.from(-1, 61) : dice.from(0, 9);
        int minutes = dice.once(20) ? dice.from(-1, 10001) : dice.below(dice.once(2) ? 60 : 600);
        int n = dice.once(20) ? dice.from(-1, 61) : dice.below(12);
        switch (dice.below(18)) {
            case 0 -> same("damage " + x + " " + y + " " + n, () -> program.damage(x, y, n),
                    () -> model.damage(x, y, n));
            case 1 -> same("rises " + x + " " + y, () -> program.rises(x, y), () -> model.rises(x, y));
            case 2, 3 -> same("stops " + y + " " + what, () -> program.stops(y, what), () -> model.stops(y, what));
            case 4 -> same("way " + either, () -> program.way(either), () -> model.way(either));
            case 5 -> same("heaps " + years + " " + either, () -> program.heaps(years, either),
                    () -> model.heaps(years, either));
            case 6 -> same("line " + years + " " + either, () -> program.line(years, either),
                    () -> model.line(years, either));
            case 7, 8 -> same("first " + minutes + " " + what, () -> program.first(minutes, what),
                    () -> model.first(minutes, what));
            case 9 -> same("mix " + minutes + " " + years + " " + n + " " + what,
                    () -> program.mix(minutes, years, n, what), () -> model.mix(minutes, years, n, what));
            case 10 -> same("enough " + minutes + " " + n, () -> program.enough(minutes, n),
                    () -> model.enough(minutes, n));
            case 11 -> same("left " + minutes + " " + years, () -> program.left(minutes, years),
                    () -> model.left(minutes, years));
            case 12 -> same("fits", program::fits, model::fits);
            case 13 -> frosts(what);
            case 14 -> same("chosen " + either, () -> program.chosen(either), () -> model.chosen(either));
            case 15 -> same("lifts " + x + " " + y, () -> program.lifts(x, y), () -> model.lifts(x, y));
            case 16 -> same("loads " + x + " " + y, () -> program.loads(x, y), () -> model.loads(x, y));
            default -> {
                same("stoniest", program::stoniest, model::stoniest);
                same("clean", program::clean, model::clean);
            }
        }
    }

    private void frosts(int what) {
        int seed = dice.once(3) ? dice.from(-5, 5) : dice.below(Integer.MAX_VALUE) * 2 + dice.below(2);
        int q = dice.once(20) ? dice.from(-1, 17) : dice.below(6);
        int winters = dice.once(20) ? dice.from(0, 21) : dice.from(1, 4);
        int many = dice.once(20) ? dice.from(0, 21) : dice.from(1, 4);
        int n = dice.once(10) ? dice.from(59, 61) : dice.from(-1, 30);
        String told = " " + seed + " " + many + " " + q + " " + winters + " " + n + " " + what;
        if (dice.once(2)) {
            same("frost" + told, () -> program.frost(seed, q, winters, what),
                    () -> model.frost(seed, q, winters, what));
        } else {
            same("span" + told, () -> program.span(seed, many, q, winters, n, what),
                    () -> model.span(seed, many, q, winters, n, what));
        }
    }
}
