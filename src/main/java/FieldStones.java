import java.util.Arrays;
import java.util.NoSuchElementException;

/** Stones off a field, as ../shared/DOC.md tells it. The face checks and counts; the classes inside answer. */
public final class FieldStones {
    public static final int NONE = -1;

    /** Rows are always 8 cells apart, so that a cell's number is the document's 8 Y and X. */
    private static final int ROW_LENGTH = 8;
    private static final int ROWS = 6;
    private static final int CELLS = ROW_LENGTH * ROWS;
    private static final int STONES = 60;
    private static final int SIZES = 9;

    private static final int LAW_BYTES = 150;
    private static final int WORK_BYTES = 200;
    private static final int BOOK_BYTES = 100;
    private static final int TOO_MANY_WORKS = -20;
    private static final int FAULT_BASE = -10;

    private final Tape tape = new Tape();
    private final Plan plan = new Plan();
    private final Past past = new Past();
    private final Advice advice = new Advice();
    private final Forecast forecast = new Forecast();

    // A text is read into the spare one, which takes the other's place only without a fault.
    private Ground ground = new Ground();
    private Ground spareGround = new Ground();
    private World world = new World();
    private World spareWorld = new World();
    private Book lines = new Book();
    private Book spareLines = new Book();
    private Law spareLaw = new Law();

    private int refusedSteps;
    private int refusedCells;
    private int refusedStones;
    private int refusedArguments;

    public FieldStones() {
    }

    public int feed(int a, int b, int c, int d, int e) {
        return tape.push(a, b, c, d, e);
    }

    public int field(int n) throws IllegalArgumentException {
        openText(n, Tape.ROOM);
        spareGround.readField(tape, spareWorld);
        if (!tape.isFine()) {
            return FAULT_BASE + tape.faultKind;
        }
        Ground oldGround = ground;
        ground = spareGround;
        spareGround = oldGround;
        World oldWorld = world;
        world = spareWorld;
        spareWorld = oldWorld;
        lines.forget();
        past.forget();
        refusedSteps = 0;
        return world.stones;
    }

    public int law(int which, int n) throws IllegalArgumentException {
        needArgument(which == 0 || which == 1);
        openText(n, LAW_BYTES);
        spareLaw.readLaw(tape);
        if (!tape.isFine()) {
            return FAULT_BASE + tape.faultKind;
        }
        spareLaw = which == 0 ? ground.swapHarm(spareLaw) : ground.swapRise(spareLaw);
        return 1;
    }

    public int work(int n) throws IllegalArgumentException {
        openText(n, WORK_BYTES);
        if (past.isFull()) {
            return TOO_MANY_WORKS;
        }
        plan.readWork(tape, ground);
        if (!tape.isFine()) {
            return FAULT_BASE + tape.faultKind;
        }
        past.keepWork(world);
        plan.carryOut(ground, world);
        refusedSteps = plan.refused;
        return plan.done;
    }

    public int book(int n) throws IllegalArgumentException {
        openText(n, BOOK_BYTES);
        spareLines.readBook(tape, ground);
        if (!tape.isFine()) {
            return FAULT_BASE + tape.faultKind;
        }
        Book old = lines;
        lines = spareLines;
        spareLines = old;
        return lines.number;
    }

    public int fault() {
        return tape.faultPlace;
    }

    public int undo() {
        if (past.works == 0) {
            return NONE;
        }
        past.takeBackWork(world);
        refusedSteps = 0;
        return past.works;
    }

    public int told(int what) throws IllegalArgumentException {
        needArgument(what >= 0 && what <= 9);
        switch (what) {
            case 0:
                return ground.width;
            case 1:
                return ground.height;
            case 2:
                return world.stones;
            case 7:
                return world.year;
            case 8:
                return lines.number;
            case 9:
                return refusedSteps;
            default:
                return world.howMany(what - 3);
        }
    }

    public int stone(int stone, int what) throws NoSuchElementException, IllegalArgumentException {
        needStone(stone);
        needArgument(what >= 0 && what <= 4);
        switch (what) {
            case 0:
                return column(world.cellOf(stone));
            case 1:
                return row(world.cellOf(stone));
            case 2:
                return world.sizeOf(stone);
            case 3:
                return world.yearOf(stone);
            default:
                return world.placeOf(stone);
        }
    }

    public int cell(int x, int y, int what) throws IndexOutOfBoundsException, IllegalArgumentException {
        needCell(x, y);
        needArgument(what >= 0 && what <= 4);
        int cell = cellAt(x, y);
        switch (what) {
            case 0:
                return ground.soilOf(cell);
            case 1:
                return world.lyingIn(cell);
            case 2:
                return world.sizesIn(cell);
            case 3:
                return world.isLost(cell) ? 1 : 0;
            default:
                return world.heapedIn(cell);
        }
    }

    public int sledge(int what) throws IllegalArgumentException {
        needArgument(what >= 0 && what <= 2);
        switch (what) {
            case 0:
                return column(world.sledge);
            case 1:
                return row(world.sledge);
            default:
                return world.load;
        }
    }

    public int sums(int what) throws IllegalArgumentException {
        needArgument(what >= 0 && what <= 3);
        switch (what) {
            case 0:
                return world.minutes;
            case 1:
                return world.harm;
            case 2:
                return world.won;
            default:
                return world.walled;
        }
    }

    public int damage(int x, int y, int size) throws IndexOutOfBoundsException, IllegalArgumentException {
        needCell(x, y);
        needArgument(size >= 1 && size <= SIZES);
        return world.harmOf(ground, cellAt(x, y), size);
    }

    public int rises(int x, int y) throws IndexOutOfBoundsException {
        needCell(x, y);
        return world.risingIn(ground, cellAt(x, y), world.year + 1, world.lying);
    }

    public int clear(int stone) throws NoSuchElementException {
        needStone(stone);
        return world.placeOf(stone) == World.LIES ? world.clearingOf(ground, stone) : 0;
    }

    public int stops(int y, int what) throws IllegalArgumentException {
        needArgument(y >= 0 && y < ground.height && what >= 0 && what <= 2);
        advice.planStops(ground, world, y);
        return (int) advice.answerTo(what);
    }

    public long way(int what) throws IllegalArgumentException {
        needArgument(what == 0 || what == 1);
        advice.planWay(ground, world);
        return advice.answerTo(what);
    }

    public int heaps(int years, int what) throws IllegalArgumentException {
        needArgument(years >= 0 && years <= 60 && (what == 0 || what == 1));
        advice.planHeaps(ground, world, years);
        return (int) advice.answerTo(what);
    }

    public int line(int years, int what) throws IllegalArgumentException {
        needArgument(years >= 0 && years <= 60 && (what == 0 || what == 1));
        advice.planLine(ground, world, years);
        return (int) advice.answerTo(what);
    }

    public long first(int minutes, int what) throws IllegalArgumentException {
        needArgument(minutes >= 0 && minutes <= Advice.FIRST_MINUTES && what >= 0 && what <= 2);
        advice.planFirst(ground, world, minutes);
        return advice.answerTo(what);
    }

    public int mix(int minutes, int lad, int horse, int what) throws IllegalArgumentException {
        needArgument(minutes >= 1 && minutes <= 9999 && what >= 0 && what <= 2);
        needArgument(lad >= 0 && lad <= 99 && horse >= 0 && horse <= 99);
        advice.planMix(world.clearingOfAll(ground, 1), minutes, lad, horse);
        return (int) advice.answerTo(what);
    }

    public int enough(int minutes, int n) throws IllegalArgumentException {
        needArgument(minutes >= 0 && minutes <= 9999 && isLimit(n));
        return forecast.yearOfEnough(ground, world, minutes, n);
    }

    public int left(int minutes, int years) throws IllegalArgumentException {
        needArgument(minutes >= 0 && minutes <= 9999 && years >= 1 && years <= Forecast.YEARS);
        return forecast.leftBehind(ground, world, minutes, years);
    }

    public int fits() {
        return lines.fittingSizes(world);
    }

    public int frost(int seed, int q, int winters, int what) throws IllegalArgumentException {
        needArgument(isFrost(q, winters) && what >= 0 && what <= 2);
        if (what == 2) {
            return forecast.harmOfFrost(ground, world, seed, q, winters);
        }
        forecast.passFrost(ground, world, seed, q, winters);
        return what == 0 ? forecast.howMany() : forecast.allSizes();
    }

    public int span(int seed, int many, int q, int winters, int n, int what) throws IllegalArgumentException {
        needArgument(isFrost(q, winters) && many >= 1 && many <= 20 && isLimit(n) && what >= 0 && what <= 2);
        int fewest = STONES;
        int most = 0;
        int fine = 0;
        for (int i = 0; i < many; i++) {
            forecast.passFrost(ground, world, seed + i, q, winters);
            int lying = forecast.howMany();
            fewest = Math.min(fewest, lying);
            most = Math.max(most, lying);
            fine += lying <= n ? 1 : 0;
        }
        if (what == 2) {
            return fine;
        }
        return what == 0 ? fewest : most;
    }

    public int chosen(int what) throws IllegalArgumentException {
        needArgument(what == 0 || what == 1);
        return what == 0 ? world.largest() : world.nearest();
    }

    public int lifts(int x, int y) throws IndexOutOfBoundsException {
        needCell(x, y);
        int cell = cellAt(x, y);
        long bits = world.liftable(ground, cell, false);
        return bits == 0 ? NONE : world.liftMinutes(ground, cell, bits);
    }

    public long loads(int x, int y) throws IndexOutOfBoundsException {
        needCell(x, y);
        return world.liftable(ground, cellAt(x, y), false);
    }

    public int stoniest() {
        int best = NONE;
        int most = 0;
        for (int cell = 0; cell < CELLS; cell++) {
            int sizes = world.sizesIn(cell);
            if (sizes > most) {
                most = sizes;
                best = cell;
            }
        }
        return best;
    }

    public int clean() {
        int cells = 0;
        for (int cell = 0; cell < CELLS; cell++) {
            if (ground.hasCell(cell) && !world.isLost(cell) && world.lyingIn(cell) == 0) {
                cells++;
            }
        }
        return cells;
    }

    public int image() {
        return past.keepImage(world) ? past.images : NONE;
    }

    public int restore() {
        if (past.images == 0) {
            return NONE;
        }
        past.takeBackImage(world);
        refusedSteps = 0;
        return past.images;
    }

    public int status(int what) {
        switch (what) {
            case 0:
                return refusedCells;
            case 1:
                return refusedStones;
            case 2:
                return refusedArguments;
            default:
                return NONE;
        }
    }

    public int count(int what) {
        switch (what) {
            case 0:
                return past.images;
            case 1:
                return tape.length;
            case 2:
                return past.works;
            default:
                return NONE;
        }
    }

    private void needArgument(boolean good) {
        if (!good) {
            refusedArguments++;
            throw new IllegalArgumentException("outside what the document allows");
        }
    }

    private void needCell(int x, int y) {
        if (x < 0 || y < 0 || x >= ground.width || y >= ground.height) {
            refusedCells++;
            throw new IndexOutOfBoundsException("no such cell");
        }
    }

    private void needStone(int stone) {
        if (stone < 0 || stone >= world.stones) {
            refusedStones++;
            throw new NoSuchElementException("no such stone");
        }
    }

    private void openText(int n, int most) {
        needArgument(n >= 0 && n <= most && n <= tape.length);
        tape.open(n);
    }

    /** The document tells the bounds of "no more than n" at enough alone; they hold wherever it asks so. */
    private static boolean isLimit(int n) {
        return n >= 0 && n <= STONES;
    }

    /** The document names no bounds for Q; a draw is 0 to 15, and the shared tests refuse 17. */
    private static boolean isFrost(int q, int winters) {
        return q >= 0 && q <= Forecast.DRAWS && winters >= 1 && winters <= 20;
    }

    private static int cellAt(int x, int y) {
        return ROW_LENGTH * y + x;
    }

    private static int column(int cell) {
        return cell & (ROW_LENGTH - 1);
    }

    private static int row(int cell) {
        return cell >> 3;
    }

    private static boolean isCell(int cell) {
        return cell >= 0 && cell < CELLS;
    }

    private static int far(int one, int other) {
        return Math.abs(column(one) - column(other)) + Math.abs(row(one) - row(other));
    }

    private static int dividedUpward(int sum, int by) {
        return by < 1 ? 0 : (sum + by - 1) / by;
    }

    private static int within(int value, int low, int high) {
        return Math.max(low, Math.min(high, value));
    }

    /** The bytes that were fed, and the reading of a text in them from left to right. */
    private static final class Tape {
        static final int ROOM = 600;
        static final int END = -1;
        static final int WRONG = 1;
        static final int RANGE = 2;
        static final int MANY = 3;
        static final int LATE = 4;
        private static final int FED = 20;
        /** Above every number that a text may hold, and far from an overflow when one more digit comes. */
        private static final int HUGE = 100000;

        private final byte[] bytes = new byte[ROOM];
        int length;
        private int end;
        int at;
        /** The first byte of the latest number or word. */
        int start;
        int faultKind;
        int faultPlace = NONE;

        int push(int a, int b, int c, int d, int e) {
            if (length + FED > ROOM) {
                return NONE;
            }
            pushNumber(a);
            pushNumber(b);
            pushNumber(c);
            pushNumber(d);
            pushNumber(e);
            return length;
        }

        private void pushNumber(int number) {
            for (int shift = 24; shift >= 0 && length < ROOM; shift -= 8) {
                bytes[length] = (byte) (number >> shift);
                length++;
            }
        }

        /** The bytes stay readable up to n, though the tape counts as empty from here on. */
        void open(int n) {
            end = Math.min(n, ROOM);
            at = 0;
            length = 0;
            faultKind = 0;
            faultPlace = NONE;
        }

        boolean isFine() {
            return faultKind == 0;
        }

        /** Only the first fault counts: reading goes from left to right, and callers report the least first. */
        void fail(int kind, int place) {
            if (faultKind == 0) {
                faultKind = kind;
                faultPlace = place;
            }
        }

        /** The byte that stands next behind blanks, or END. */
        int next() {
            while (at < end && byteAt(at) == ' ') {
                at++;
            }
            return at < end ? byteAt(at) : END;
        }

        boolean isNext(int sign) {
            return isFine() && next() == sign;
        }

        void skipSign() {
            if (at < end) {
                at++;
            }
        }

        void readSign(int sign) {
            if (next() == sign) {
                at++;
            } else {
                fail(WRONG, at);
            }
        }

        int readNumber(int low, int high) {
            if (!isDigit(next())) {
                fail(WRONG, at);
                return low;
            }
            start = at;
            int value = 0;
            while (at < end && isDigit(byteAt(at))) {
                value = Math.min(HUGE, value * 10 + byteAt(at) - '0');
                at++;
            }
            if (value < low || value > high) {
                fail(RANGE, start);
            }
            return value;
        }

        /** Which of the words (parted by blanks) stands next; another one is a fault. */
        int readWord(String words) {
            next();
            start = at;
            while (at < end && byteAt(at) >= 'a' && byteAt(at) <= 'z') {
                at++;
            }
            int index = indexAmong(words);
            if (index == NONE) {
                fail(WRONG, start);
            }
            return index;
        }

        private int indexAmong(String words) {
            int index = 0;
            int from = 0;
            for (int i = 0; i <= words.length(); i++) {
                if (i == words.length() || words.charAt(i) == ' ') {
                    if (isWord(words, from, i)) {
                        return index;
                    }
                    index++;
                    from = i + 1;
                }
            }
            return NONE;
        }

        private boolean isWord(String words, int from, int to) {
            if (to - from != at - start) {
                return false;
            }
            for (int i = from; i < to && i < words.length(); i++) {
                if (words.charAt(i) != byteAt(start + i - from)) {
                    return false;
                }
            }
            return true;
        }

        private int byteAt(int index) {
            return index >= 0 && index < ROOM ? bytes[index] & 255 : END;
        }

        static boolean isDigit(int sign) {
            return sign >= '0' && sign <= '9';
        }
    }

    /** What the field's text tells, with the laws: none of it changes by work. */
    private static final class Ground {
        private static final String WORDS = "field stone soil lads sledge bar";
        private static final int FIELD = 0;
        private static final int STONE = 1;
        private static final int SOIL = 2;
        private static final int LADS = 3;
        private static final int SLEDGE = 4;
        private static final int CLAUSES = 60;
        private static final int TOLD_STONES = 30;

        private final int[] soil = new int[CELLS];
        Law harmLaw = new Law();
        Law riseLaw = new Law();
        int width;
        int height;
        int lads;
        int largestLifted;
        int cellMinutes;
        int startMinutes;
        int sledgeMinutes;
        int sledgeRoom;
        int barMinutes;

        Ground() {
            forget();
        }

        private void forget() {
            width = 6;
            height = 4;
            Arrays.fill(soil, 5);
            lads = 2;
            largestLifted = 4;
            cellMinutes = 1;
            startMinutes = 3;
            sledgeMinutes = 1;
            sledgeRoom = 12;
            barMinutes = 5;
            harmLaw.becomeTwiceSize();
            riseLaw.becomeNothing();
        }

        Law swapHarm(Law law) {
            Law old = harmLaw;
            harmLaw = law;
            return old;
        }

        Law swapRise(Law law) {
            Law old = riseLaw;
            riseLaw = law;
            return old;
        }

        boolean hasCell(int cell) {
            return isCell(cell) && column(cell) < width && row(cell) < height;
        }

        int soilOf(int cell) {
            return isCell(cell) ? soil[cell] : 0;
        }

        void readField(Tape tape, World fresh) {
            forget();
            fresh.forget();
            for (int clause = 0; clause <= CLAUSES && tape.isFine() && tape.next() != Tape.END; clause++) {
                readClause(tape, fresh, clause);
            }
        }

        private void readClause(Tape tape, World fresh, int clause) {
            int word = tape.readWord(WORDS);
            if (clause >= CLAUSES || word == STONE && fresh.stones >= TOLD_STONES) {
                tape.fail(Tape.MANY, tape.start);
            }
            if (word == FIELD && clause > 0) {
                tape.fail(Tape.LATE, tape.start);
            }
            if (tape.isFine()) {
                readNumbers(tape, fresh, word);
                tape.readSign(';');
            }
        }

        private void readNumbers(Tape tape, World fresh, int word) {
            switch (word) {
                case FIELD:
                    width = tape.readNumber(1, ROW_LENGTH);
                    height = tape.readNumber(1, ROWS);
                    break;
                case STONE:
                    int place = readCell(tape);
                    int size = tape.readNumber(1, SIZES);
                    fresh.addStone(place, size);
                    break;
                case SOIL:
                    int cell = readCell(tape);
                    int pence = tape.readNumber(0, 99);
                    if (isCell(cell)) {
                        soil[cell] = pence;
                    }
                    break;
                case LADS:
                    lads = tape.readNumber(1, 6);
                    largestLifted = tape.readNumber(1, SIZES);
                    cellMinutes = tape.readNumber(1, 9);
                    break;
                case SLEDGE:
                    startMinutes = tape.readNumber(0, 60);
                    sledgeMinutes = tape.readNumber(1, 9);
                    sledgeRoom = tape.readNumber(1, 99);
                    break;
                default:
                    barMinutes = tape.readNumber(1, 30);
                    break;
            }
        }

        /** X and Y as a cell's number; the tape has a fault, if there is no such cell. */
        int readCell(Tape tape) {
            int x = tape.readNumber(0, width - 1);
            int y = tape.readNumber(0, height - 1);
            return cellAt(x, y);
        }
    }

    /** A law, kept as codes in the order in which a stack works them off. */
    private static final class Law {
        private static final String WORDS = "size soil year many x y all if";
        private static final int IF = 7;
        private static final int MOST_OPEN = 6;
        private static final int LARGEST = 999;
        /** Codes to LARGEST are numbers, from here on names; a sign stands as its byte less than 0. */
        private static final int NAMES = LARGEST + 1;
        private static final int CHOICE = '?';

        // Every code comes from a byte of its own at least.
        private final int[] codes = new int[LAW_BYTES];
        private final int[] stack = new int[LAW_BYTES];
        private final int[] names = new int[IF];
        private int length;

        void becomeTwiceSize() {
            length = 0;
            put(NAMES);
            put(2);
            put(-'*');
        }

        void becomeNothing() {
            length = 0;
            put(0);
        }

        void readLaw(Tape tape) {
            length = 0;
            readSum(tape, 0);
            if (tape.next() != Tape.END) {
                tape.fail(Tape.WRONG, tape.at);
            }
        }

        private void readSum(Tape tape, int open) {
            readProduct(tape, open);
            for (int i = 0; i < LAW_BYTES && (tape.isNext('+') || tape.isNext('-')); i++) {
                int sign = tape.next();
                tape.skipSign();
                readProduct(tape, open);
                put(-sign);
            }
        }

        private void readProduct(Tape tape, int open) {
            readPart(tape, open);
            for (int i = 0; i < LAW_BYTES && isProductSign(tape); i++) {
                int sign = tape.next();
                tape.skipSign();
                readPart(tape, open);
                put(-sign);
            }
        }

        private static boolean isProductSign(Tape tape) {
            return tape.isNext('*') || tape.isNext('/') || tape.isNext('%');
        }

        private void readPart(Tape tape, int open) {
            if (Tape.isDigit(tape.next())) {
                put(tape.readNumber(0, LARGEST));
            } else if (tape.isNext('(')) {
                readBracket(tape, open);
            } else {
                readName(tape, open);
            }
        }

        private void readBracket(Tape tape, int open) {
            if (open >= MOST_OPEN) {
                tape.fail(Tape.MANY, tape.at);
                return;
            }
            tape.skipSign();
            readSum(tape, open + 1);
            tape.readSign(')');
        }

        private void readName(Tape tape, int open) {
            int word = tape.readWord(WORDS);
            if (word != IF) {
                put(NAMES + word);
            } else if (open >= MOST_OPEN) {
                tape.fail(Tape.MANY, tape.start);
            } else {
                tape.readSign('[');
                readChoice(tape, open + 1);
                tape.readSign(']');
            }
        }

        private void readChoice(Tape tape, int open) {
            for (int i = 0; i < 3 && tape.isFine(); i++) {
                if (i > 0) {
                    tape.readSign(',');
                }
                if (tape.isFine()) {
                    readSum(tape, open);
                }
            }
            put(-CHOICE);
        }

        private void put(int code) {
            if (length < LAW_BYTES) {
                codes[length] = code;
                length++;
            }
        }

        int valueFor(int size, int soil, int year, int many, int cell, int all) {
            names[0] = size;
            names[1] = soil;
            names[2] = year;
            names[3] = many;
            names[4] = column(cell);
            names[5] = row(cell);
            names[6] = all;
            int top = 0;
            for (int i = 0; i < length && top < LAW_BYTES; i++) {
                int code = codes[i];
                if (code >= 0) {
                    stack[top] = code < NAMES ? code : nameAt(code - NAMES);
                    top++;
                } else if (code == -CHOICE && top >= 3) {
                    top -= 2;
                    stack[top - 1] = stack[top - 1] > 0 ? stack[top] : stack[top + 1];
                } else if (top >= 2) {
                    top--;
                    stack[top - 1] = joined(-code, stack[top - 1], stack[top]);
                }
            }
            return stack[0];
        }

        private int nameAt(int name) {
            return name >= 0 && name < IF ? names[name] : 0;
        }

        private static int joined(int sign, int one, int other) {
            switch (sign) {
                case '+':
                    return one + other;
                case '-':
                    return one - other;
                case '*':
                    return one * other;
                case '/':
                    return other == 0 ? 0 : one / other;
                default:
                    return other == 0 ? 0 : one % other;
            }
        }
    }

    /** All that work changes: stones, lost cells, heaps, the sledge, the year and the sums. */
    private static final class World {
        static final int LIES = 0;
        static final int ON_SLEDGE = 1;
        static final int IN_WALL = 2;
        static final int IN_HEAP = 3;
        /** How many numbers one world takes in the rows of the past. */
        static final int LENGTH = 4 * STONES + 3 * CELLS + 9;
        private static final int MOST_HARM = 999;
        private static final int MOST_RISING = 2;

        private final int[] cells = new int[STONES];
        private final int[] sizes = new int[STONES];
        private final int[] years = new int[STONES];
        private final int[] places = new int[STONES];
        private final int[] lost = new int[CELLS];
        private final int[] heaped = new int[CELLS];
        // How many lie is kept, not counted anew, since the laws ask it for every stone and cell.
        private final int[] lyingHere = new int[CELLS];
        int lying;
        int stones;
        int year;
        int sledge;
        int load;
        int minutes;
        int harm;
        int won;
        int walled;

        void forget() {
            Arrays.fill(lost, 0);
            Arrays.fill(heaped, 0);
            Arrays.fill(lyingHere, 0);
            lying = 0;
            stones = 0;
            year = 0;
            sledge = 0;
            load = 0;
            minutes = 0;
            harm = 0;
            won = 0;
            walled = 0;
        }

        void writeTo(int[] rows, int start) {
            if (start < 0 || start > rows.length - LENGTH) {
                return;
            }
            System.arraycopy(cells, 0, rows, start, STONES);
            System.arraycopy(sizes, 0, rows, start + STONES, STONES);
            System.arraycopy(years, 0, rows, start + 2 * STONES, STONES);
            System.arraycopy(places, 0, rows, start + 3 * STONES, STONES);
            int at = start + 4 * STONES;
            System.arraycopy(lost, 0, rows, at, CELLS);
            System.arraycopy(heaped, 0, rows, at + CELLS, CELLS);
            System.arraycopy(lyingHere, 0, rows, at + 2 * CELLS, CELLS);
            at += 3 * CELLS;
            rows[at] = lying;
            rows[at + 1] = stones;
            rows[at + 2] = year;
            rows[at + 3] = sledge;
            rows[at + 4] = load;
            rows[at + 5] = minutes;
            rows[at + 6] = harm;
            rows[at + 7] = won;
            rows[at + 8] = walled;
        }

        void readFrom(int[] rows, int start) {
            if (start < 0 || start > rows.length - LENGTH) {
                return;
            }
            System.arraycopy(rows, start, cells, 0, STONES);
            System.arraycopy(rows, start + STONES, sizes, 0, STONES);
            System.arraycopy(rows, start + 2 * STONES, years, 0, STONES);
            System.arraycopy(rows, start + 3 * STONES, places, 0, STONES);
            int at = start + 4 * STONES;
            System.arraycopy(rows, at, lost, 0, CELLS);
            System.arraycopy(rows, at + CELLS, heaped, 0, CELLS);
            System.arraycopy(rows, at + 2 * CELLS, lyingHere, 0, CELLS);
            at += 3 * CELLS;
            lying = rows[at];
            stones = rows[at + 1];
            year = rows[at + 2];
            sledge = rows[at + 3];
            load = rows[at + 4];
            minutes = rows[at + 5];
            harm = rows[at + 6];
            won = rows[at + 7];
            walled = rows[at + 8];
        }

        private boolean isStone(int stone) {
            return stone >= 0 && stone < stones && stone < STONES;
        }

        int cellOf(int stone) {
            return isStone(stone) ? cells[stone] : 0;
        }

        int sizeOf(int stone) {
            return isStone(stone) ? sizes[stone] : 0;
        }

        int yearOf(int stone) {
            return isStone(stone) ? years[stone] : 0;
        }

        int placeOf(int stone) {
            return isStone(stone) ? places[stone] : NONE;
        }

        boolean isLost(int cell) {
            return isCell(cell) && lost[cell] != 0;
        }

        int heapedIn(int cell) {
            return isCell(cell) ? heaped[cell] : 0;
        }

        int lyingIn(int cell) {
            return isCell(cell) ? lyingHere[cell] : 0;
        }

        boolean liesIn(int stone, int cell) {
            return placeOf(stone) == LIES && cellOf(stone) == cell;
        }

        /** Whether the questions are about this stone: it lies in a cell that is not lost. */
        boolean isAsked(int stone) {
            return placeOf(stone) == LIES && !isLost(cellOf(stone));
        }

        int howMany(int place) {
            int number = 0;
            for (int stone = 0; stone < stones; stone++) {
                number += placeOf(stone) == place ? 1 : 0;
            }
            return number;
        }

        int howManyAsked() {
            int number = 0;
            for (int stone = 0; stone < stones; stone++) {
                number += isAsked(stone) ? 1 : 0;
            }
            return number;
        }

        int sizesAsked() {
            int sum = 0;
            for (int stone = 0; stone < stones; stone++) {
                sum += isAsked(stone) ? sizeOf(stone) : 0;
            }
            return sum;
        }

        int sizesIn(int cell) {
            int sum = 0;
            for (int stone = 0; stone < stones; stone++) {
                sum += liesIn(stone, cell) ? sizeOf(stone) : 0;
            }
            return sum;
        }

        int largest() {
            int best = NONE;
            for (int stone = 0; stone < stones; stone++) {
                if (placeOf(stone) == LIES && (best == NONE || sizeOf(stone) > sizeOf(best))) {
                    best = stone;
                }
            }
            return best;
        }

        int nearest() {
            int best = NONE;
            for (int stone = 0; stone < stones; stone++) {
                if (placeOf(stone) == LIES
                        && (best == NONE || far(cellOf(stone), sledge) < far(cellOf(best), sledge))) {
                    best = stone;
                }
            }
            return best;
        }

        void addStone(int cell, int size) {
            if (stones >= STONES || !isCell(cell)) {
                return;
            }
            cells[stones] = cell;
            sizes[stones] = size;
            years[stones] = year;
            places[stones] = LIES;
            stones++;
            lyingHere[cell]++;
            lying++;
        }

        /** Only for a stone that lies; its cell stays told as where it lay last. */
        void takeUp(int stone, int place) {
            int cell = cellOf(stone);
            if (isStone(stone) && isCell(cell)) {
                places[stone] = place;
                lyingHere[cell]--;
                lying--;
            }
        }

        /** What leaves the sledge goes to that place; answers how many stones they are. */
        private int unload(int place) {
            int number = 0;
            for (int stone = 0; stone < stones && stone < STONES; stone++) {
                if (places[stone] == ON_SLEDGE) {
                    places[stone] = place;
                    number++;
                }
            }
            load = 0;
            return number;
        }

        boolean driveTo(Ground ground, int cell) {
            if (cell == sledge) {
                return false;
            }
            minutes += ground.startMinutes + ground.sledgeMinutes * far(sledge, cell);
            sledge = cell;
            return true;
        }

        /** The stones that a lift in a cell (or, of the large ones, a bar) would put on the sledge, as bits. */
        long liftable(Ground ground, int cell, boolean large) {
            long bits = 0;
            int full = load;
            for (int stone = 0; stone < stones; stone++) {
                int size = sizeOf(stone);
                if (liesIn(stone, cell) && size > ground.largestLifted == large && full + size <= ground.sledgeRoom) {
                    bits |= 1L << stone;
                    full += size;
                }
            }
            return bits;
        }

        private static boolean holds(long bits, int stone) {
            return (bits >> stone & 1) != 0;
        }

        private int sizesOf(long bits) {
            int sum = 0;
            for (int stone = 0; stone < stones; stone++) {
                sum += holds(bits, stone) ? sizeOf(stone) : 0;
            }
            return sum;
        }

        int liftMinutes(Ground ground, int cell, long bits) {
            int walked = 2 * ground.cellMinutes * far(cell, sledge) * Long.bitCount(bits);
            return dividedUpward(walked + sizesOf(bits), ground.lads);
        }

        private void putOnSledge(long bits) {
            load += sizesOf(bits);
            for (int stone = 0; stone < stones; stone++) {
                if (holds(bits, stone)) {
                    takeUp(stone, ON_SLEDGE);
                }
            }
        }

        boolean liftFrom(Ground ground, int cell) {
            long bits = liftable(ground, cell, false);
            if (bits == 0) {
                return false;
            }
            minutes += liftMinutes(ground, cell, bits);
            putOnSledge(bits);
            return true;
        }

        boolean barUp(Ground ground) {
            long bits = liftable(ground, sledge, true);
            if (bits == 0 || ground.lads == 1) {
                return false;
            }
            minutes += ground.barMinutes * sizesOf(bits);
            putOnSledge(bits);
            return true;
        }

        boolean bringToWall(Ground ground) {
            if (load == 0) {
                return false;
            }
            minutes += ground.startMinutes + ground.sledgeMinutes * (column(sledge) + 1);
            walled += load;
            unload(IN_WALL);
            sledge = cellAt(0, row(sledge));
            return true;
        }

        boolean pileUp() {
            if (load == 0 || !isCell(sledge)) {
                return false;
            }
            int unloaded = unload(IN_HEAP);
            minutes += unloaded;
            heaped[sledge] += unloaded + lyingHere[sledge];
            for (int stone = 0; stone < stones; stone++) {
                if (liesIn(stone, sledge)) {
                    takeUp(stone, IN_HEAP);
                }
            }
            lost[sledge] = 1;
            return true;
        }

        boolean giveUp(int cell) {
            if (!isCell(cell) || isLost(cell)) {
                return false;
            }
            lost[cell] = 1;
            return true;
        }

        boolean passWinter(Ground ground) {
            harm += harmOfAll(ground, SIZES + 1);
            for (int cell = 0; cell < CELLS; cell++) {
                won += ground.hasCell(cell) && !isLost(cell) ? ground.soilOf(cell) : 0;
            }
            raiseStones(ground);
            return true;
        }

        /** The year turns, and stones rise as the law says of all as it was ahead of the rise. */
        void raiseStones(Ground ground) {
            year++;
            // Of what the law may ask, earlier cells of this winter change nothing but how many lie in all.
            int all = lying;
            for (int cell = 0; cell < CELLS && stones < STONES; cell++) {
                if (ground.hasCell(cell)) {
                    int rising = risingIn(ground, cell, year, all);
                    for (int i = 0; i < rising; i++) {
                        addStone(cell, 1 + (3 * column(cell) + 5 * row(cell) + 7 * year + i) % 9);
                    }
                }
            }
        }

        int risingIn(Ground ground, int cell, int newYear, int all) {
            if (isLost(cell)) {
                return 0;
            }
            int told = ground.riseLaw.valueFor(0, ground.soilOf(cell), newYear, lyingIn(cell), cell, all);
            return within(told, 0, MOST_RISING);
        }

        int harmOf(Ground ground, int cell, int size) {
            int told = ground.harmLaw.valueFor(size, ground.soilOf(cell), year, lyingIn(cell), cell, lying);
            return within(told, 0, MOST_HARM);
        }

        /** What the asked stones below a size cost this year. */
        int harmOfAll(Ground ground, int belowSize) {
            int sum = 0;
            for (int stone = 0; stone < stones; stone++) {
                if (isAsked(stone) && sizeOf(stone) < belowSize) {
                    sum += harmOf(ground, cellOf(stone), sizeOf(stone));
                }
            }
            return sum;
        }

        int clearingOf(Ground ground, int stone) {
            int size = sizeOf(stone);
            if (size > ground.largestLifted) {
                return ground.barMinutes * size;
            }
            return 2 * ground.cellMinutes * (column(cellOf(stone)) + 1) + size;
        }

        /** How long the asked stones of a size and above take to clear. */
        int clearingOfAll(Ground ground, int fromSize) {
            int sum = 0;
            for (int stone = 0; stone < stones; stone++) {
                sum += isAsked(stone) && sizeOf(stone) >= fromSize ? clearingOf(ground, stone) : 0;
            }
            return sum;
        }

        int clearingOfCell(Ground ground, int cell) {
            int sum = 0;
            for (int stone = 0; stone < stones; stone++) {
                sum += liesIn(stone, cell) ? clearingOf(ground, stone) : 0;
            }
            return sum;
        }
    }

    /** A work's text as steps in a row; a loop's end leads back to its again. */
    private static final class Plan {
        private static final String WORDS = "to lift bar wall heap round winter again";
        private static final int TO = 0;
        private static final int LIFT = 1;
        private static final int BAR = 2;
        private static final int WALL = 3;
        private static final int HEAP = 4;
        private static final int ROUND = 5;
        private static final int AGAIN = 7;
        private static final int END = 8;
        private static final int MOST_OPEN = 6;
        private static final int MOST_TIMES = 20;
        private static final int MOST_BEGUN = 300;
        /** A step begun meets at most 20 loop ends of its own before the next one is begun. */
        private static final int MOST_TURNS = MOST_BEGUN * (MOST_TIMES + 2);

        // A step or a loop's end takes more than one byte, so the rows never fill.
        private final int[] kinds = new int[WORK_BYTES];
        /** A step's cell, an again's times, the place of the again that an end ends. */
        private final int[] numbers = new int[WORK_BYTES];
        private final int[] ends = new int[WORK_BYTES];
        private final int[] timesLeft = new int[WORK_BYTES];
        private int length;
        int done;
        int refused;

        void readWork(Tape tape, Ground ground) {
            length = 0;
            readSteps(tape, ground, 0);
        }

        private void readSteps(Tape tape, Ground ground, int open) {
            int last = open == 0 ? Tape.END : ']';
            for (int i = 0; i < WORK_BYTES && tape.isFine() && tape.next() != last; i++) {
                readStep(tape, ground, open);
                tape.readSign(';');
            }
        }

        private void readStep(Tape tape, Ground ground, int open) {
            int word = tape.readWord(WORDS);
            if (word == AGAIN) {
                readAgain(tape, ground, open);
            } else if (word == TO || word == LIFT || word == ROUND) {
                put(word, ground.readCell(tape));
            } else {
                put(word, 0);
            }
        }

        private void readAgain(Tape tape, Ground ground, int open) {
            if (open >= MOST_OPEN) {
                tape.fail(Tape.MANY, tape.start);
                return;
            }
            int again = length;
            put(AGAIN, tape.readNumber(0, MOST_TIMES));
            tape.readSign('[');
            readSteps(tape, ground, open + 1);
            tape.readSign(']');
            if (again < WORK_BYTES) {
                ends[again] = length;
            }
            put(END, again);
        }

        private void put(int kind, int number) {
            if (length < WORK_BYTES) {
                kinds[length] = kind;
                numbers[length] = number;
                length++;
            }
        }

        void carryOut(Ground ground, World world) {
            done = 0;
            refused = 0;
            int begun = 0;
            int at = 0;
            for (int turn = 0; turn < MOST_TURNS && at >= 0 && at < length; turn++) {
                if (kinds[at] == END) {
                    at = endLoop(at);
                } else if (begun == MOST_BEGUN) {
                    return;
                } else {
                    begun++;
                    at = kinds[at] == AGAIN ? beginLoop(at) : passStep(carryOutStep(ground, world, at), at);
                }
            }
        }

        private int passStep(boolean isDone, int at) {
            done += isDone ? 1 : 0;
            refused += isDone ? 0 : 1;
            return at + 1;
        }

        private int beginLoop(int at) {
            timesLeft[at] = numbers[at];
            return numbers[at] == 0 ? ends[at] + 1 : at + 1;
        }

        private int endLoop(int at) {
            int again = numbers[at];
            if (again < 0 || again >= at) {
                return at + 1;
            }
            timesLeft[again]--;
            return timesLeft[again] > 0 ? again + 1 : at + 1;
        }

        /** Whether the step was done; a refused one has changed nothing. */
        private boolean carryOutStep(Ground ground, World world, int at) {
            int cell = numbers[at];
            switch (kinds[at]) {
                case TO:
                    return world.driveTo(ground, cell);
                case LIFT:
                    return world.liftFrom(ground, cell);
                case BAR:
                    return world.barUp(ground);
                case WALL:
                    return world.bringToWall(ground);
                case HEAP:
                    return world.pileUp();
                case ROUND:
                    return world.giveUp(cell);
                default:
                    return world.passWinter(ground);
            }
        }
    }

    /** The old heaps of the book. */
    private static final class Book {
        private static final int LINES = 6;

        private final int[] cells = new int[LINES];
        private final int[] stones = new int[LINES];
        private final int[] found = new int[LINES];
        int number;

        void forget() {
            number = 0;
        }

        void readBook(Tape tape, Ground ground) {
            number = 0;
            for (int line = 0; line <= LINES && tape.isFine() && tape.next() != Tape.END; line++) {
                readLine(tape, ground);
            }
        }

        private void readLine(Tape tape, Ground ground) {
            int x = tape.readNumber(0, ground.width - 1);
            if (number >= LINES) {
                tape.fail(Tape.MANY, tape.start);
                return;
            }
            int y = tape.readNumber(0, ground.height - 1);
            int cell = cellAt(x, y);
            if (isTold(cell)) {
                tape.fail(Tape.RANGE, tape.start);
            }
            cells[number] = cell;
            stones[number] = tape.readNumber(0, STONES);
            number++;
            tape.readSign(';');
        }

        private boolean isTold(int cell) {
            for (int line = 0; line < number && line < LINES; line++) {
                if (cells[line] == cell) {
                    return true;
                }
            }
            return false;
        }

        int fittingSizes(World world) {
            int bits = 0;
            for (int size = 1; size <= SIZES; size++) {
                bits |= isFitting(world, size) ? 1 << (size - 1) : 0;
            }
            return bits;
        }

        private boolean isFitting(World world, int fromSize) {
            Arrays.fill(found, 0);
            for (int stone = 0; stone < world.stones; stone++) {
                if (world.isAsked(stone) && world.sizeOf(stone) >= fromSize) {
                    int line = nearestLine(world.cellOf(stone));
                    if (line >= 0 && line < LINES) {
                        found[line]++;
                    }
                }
            }
            for (int line = 0; line < number && line < LINES; line++) {
                if (found[line] != stones[line]) {
                    return false;
                }
            }
            return true;
        }

        private int nearestLine(int cell) {
            int best = NONE;
            int least = 0;
            for (int line = 0; line < number && line < LINES; line++) {
                int distance = far(cell, cells[line]);
                if (best == NONE || distance < least) {
                    best = line;
                    least = distance;
                }
            }
            return best;
        }
    }

    /** The works that can be undone, and the images, each a world written out as numbers. */
    private static final class Past {
        private static final int WORKS = 20;
        private static final int IMAGES = 3;
        private static final int IMAGE_LENGTH = (WORKS + 1) * World.LENGTH;
        private static final int WORKS_LENGTH = WORKS * World.LENGTH;

        private final int[] before = new int[WORKS_LENGTH];
        /** Each image: the works of then, and behind them the world of then. */
        private final int[] kept = new int[IMAGES * IMAGE_LENGTH];
        private final int[] keptWorks = new int[IMAGES];
        int works;
        int images;

        void forget() {
            works = 0;
            images = 0;
        }

        boolean isFull() {
            return works >= WORKS;
        }

        void keepWork(World now) {
            if (!isFull()) {
                now.writeTo(before, works * World.LENGTH);
                works++;
            }
        }

        void takeBackWork(World now) {
            if (works > 0) {
                works--;
                now.readFrom(before, works * World.LENGTH);
            }
        }

        boolean keepImage(World now) {
            if (images < 0 || images >= IMAGES) {
                return false;
            }
            int start = images * IMAGE_LENGTH;
            System.arraycopy(before, 0, kept, start, WORKS_LENGTH);
            now.writeTo(kept, start + WORKS_LENGTH);
            keptWorks[images] = works;
            images++;
            return true;
        }

        void takeBackImage(World now) {
            if (images <= 0 || images > IMAGES) {
                return;
            }
            images--;
            int start = images * IMAGE_LENGTH;
            System.arraycopy(kept, start, before, 0, WORKS_LENGTH);
            now.readFrom(kept, start + WORKS_LENGTH);
            works = keptWorks[images];
        }
    }

    /** The best plans: stops, way, heaps, line, first, mix. Each leaves its answers by the face's "what". */
    private static final class Advice {
        static final int FIRST_MINUTES = 999;
        private static final int FROM_RIGHT = 6;
        private static final int MOST_LADS = 6;
        private static final int MOST_HORSES = 3;
        private static final int HORSE_HANDS = 3;
        private static final int HEAP_BASE = 64;
        /** Where only the wall takes stones: a row of its own behind those of the cells. */
        private static final int WALL = CELLS;

        private final long[] answers = new long[3];
        private final int[] stonesAt = new int[ROW_LENGTH];
        /** By minutes spent: the most soil (NONE: these minutes can't be spent), and its least cells. */
        private final int[] mostSoil = new int[FIRST_MINUTES + 1];
        private final long[] leastBits = new long[FIRST_MINUTES + 1];
        /** How far each stone is carried by cell of a heap, the wall being nearer or not. */
        private final int[] carries = new int[(CELLS + 1) * STONES];
        private int carried;

        long answerTo(int what) {
            return what >= 0 && what < answers.length ? answers[what] : 0;
        }

        private void settle(long zero, long one, long two) {
            answers[0] = zero;
            answers[1] = one;
            answers[2] = two;
        }

        void planStops(Ground ground, World world, int y) {
            settle(0, 0, 0);
            if (!countLiftedIn(ground, world, y)) {
                return;
            }
            for (int bits = 1; bits < 1 << ground.width; bits++) {
                int number = Integer.bitCount(bits);
                int minutes = number * ground.startMinutes + 2 * ground.cellMinutes * carriedCells(bits);
                if (answers[1] == 0 || minutes < answers[0] || minutes == answers[0] && number < answers[1]) {
                    settle(minutes, number, bits);
                }
            }
        }

        /** Counts by X what the lads can lift in a row; answers whether there is any. */
        private boolean countLiftedIn(Ground ground, World world, int y) {
            Arrays.fill(stonesAt, 0);
            boolean any = false;
            for (int stone = 0; stone < world.stones; stone++) {
                int cell = world.cellOf(stone);
                if (world.isAsked(stone) && row(cell) == y && world.sizeOf(stone) <= ground.largestLifted) {
                    stonesAt[column(cell)]++;
                    any = true;
                }
            }
            return any;
        }

        private int carriedCells(int stopBits) {
            int sum = 0;
            for (int x = 0; x < ROW_LENGTH; x++) {
                sum += stonesAt[x] == 0 ? 0 : stonesAt[x] * cellsToStop(stopBits, x);
            }
            return sum;
        }

        private static int cellsToStop(int stopBits, int x) {
            int least = ROW_LENGTH;
            for (int stop = 0; stop < ROW_LENGTH; stop++) {
                if ((stopBits >> stop & 1) != 0) {
                    least = Math.min(least, Math.abs(stop - x));
                }
            }
            return least;
        }

        /**
         * Downward, each row from the end at which the last one ended: no way over these rows has less than their
         * cells and the cells down to the lowest one, and only this way has no more. In a field of one column both
         * ends are one, and the left one comes first.
         */
        void planWay(Ground ground, World world) {
            int rows = rowsAsked(world);
            int across = ground.width - 1;
            int cells = 0;
            long digits = 0;
            int lowest = 0;
            boolean isAtRight = false;
            for (int y = 0; y < ROWS; y++) {
                if ((rows >> y & 1) != 0) {
                    lowest = y;
                    cells += across;
                    digits = digits * 10 + y + (isAtRight ? FROM_RIGHT : 0);
                    isAtRight = !isAtRight && across > 0;
                }
            }
            settle(ground.sledgeMinutes * (cells + lowest), digits, 0);
        }

        private static int rowsAsked(World world) {
            int rows = 0;
            for (int stone = 0; stone < world.stones; stone++) {
                rows |= world.isAsked(stone) ? 1 << row(world.cellOf(stone)) : 0;
            }
            return rows;
        }

        void planHeaps(Ground ground, World world, int years) {
            measureCarries(world);
            settle(ground.sledgeMinutes * carriedBy(WALL, WALL), 0, 0);
            // Each pair comes behind all single heaps, so that of alike costs the fewest heaps stay.
            for (int cell = 0; cell < CELLS; cell++) {
                if (isHeapable(ground, world, cell)) {
                    int cost = ground.sledgeMinutes * carriedBy(cell, cell) + years * ground.soilOf(cell);
                    tryHeaps(cost, cell + 1);
                }
            }
            for (int cell = 0; cell < CELLS; cell++) {
                if (isHeapable(ground, world, cell)) {
                    tryPairs(ground, world, years, cell);
                }
            }
        }

        private void tryPairs(Ground ground, World world, int years, int one) {
            for (int two = one + 1; two < CELLS; two++) {
                if (isHeapable(ground, world, two)) {
                    int soil = ground.soilOf(one) + ground.soilOf(two);
                    int cost = ground.sledgeMinutes * carriedBy(one, two) + years * soil;
                    tryHeaps(cost, (one + 1) * HEAP_BASE + two + 1);
                }
            }
        }

        private static boolean isHeapable(Ground ground, World world, int cell) {
            return ground.hasCell(cell) && !world.isLost(cell);
        }

        private void tryHeaps(int cost, int digits) {
            if (cost < answers[0]) {
                settle(cost, digits, 0);
            }
        }

        private void measureCarries(World world) {
            carried = 0;
            for (int stone = 0; stone < world.stones && carried < STONES; stone++) {
                if (world.isAsked(stone)) {
                    measureCarry(world.cellOf(stone));
                    carried++;
                }
            }
        }

        private void measureCarry(int from) {
            int toWall = column(from) + 1;
            for (int cell = 0; cell < CELLS; cell++) {
                carries[cell * STONES + carried] = Math.min(toWall, far(from, cell));
            }
            carries[WALL * STONES + carried] = toWall;
        }

        private int carriedBy(int one, int two) {
            int sum = 0;
            for (int i = 0; i < carried; i++) {
                sum += Math.min(carries[one * STONES + i], carries[two * STONES + i]);
            }
            return sum;
        }

        void planLine(Ground ground, World world, int years) {
            settle(NONE, 0, 0);
            for (int size = 1; size <= SIZES + 1; size++) {
                int cost = world.clearingOfAll(ground, size) + years * world.harmOfAll(ground, size);
                if (answers[0] == NONE || cost < answers[1]) {
                    settle(size, cost, 0);
                }
            }
        }

        void planFirst(Ground ground, World world, int minutes) {
            Arrays.fill(mostSoil, NONE);
            mostSoil[0] = 0;
            leastBits[0] = 0;
            for (int cell = 0; cell < CELLS; cell++) {
                if (world.lyingIn(cell) > 0 && !world.isLost(cell)) {
                    spendOn(cell, world.clearingOfCell(ground, cell), ground.soilOf(cell), minutes);
                }
            }
            settle(0, 0, 0);
            for (int spent = 1; spent <= minutes && spent <= FIRST_MINUTES; spent++) {
                if (mostSoil[spent] > answers[0]) {
                    settle(mostSoil[spent], spent, leastBits[spent]);
                }
            }
        }

        /** Cells come with rising bits, so that of alike sums the one without the new cell has the least bits. */
        private void spendOn(int cell, int cost, int soil, int minutes) {
            for (int spent = Math.min(minutes, FIRST_MINUTES); spent >= cost && cost > 0; spent--) {
                int before = spent - cost;
                if (mostSoil[before] != NONE && mostSoil[before] + soil > mostSoil[spent]) {
                    mostSoil[spent] = mostSoil[before] + soil;
                    leastBits[spent] = leastBits[before] | 1L << cell;
                }
            }
        }

        void planMix(int clearing, int minutes, int lad, int horse) {
            if (clearing == 0) {
                settle(0, 0, 0);
                return;
            }
            settle(NONE, NONE, NONE);
            for (int lads = 0; lads <= MOST_LADS; lads++) {
                for (int horses = 0; horses <= MOST_HORSES; horses++) {
                    int hands = lads + HORSE_HANDS * horses;
                    int needed = dividedUpward(clearing, hands);
                    int pence = needed * (lads * lad + horses * horse);
                    if (hands > 0 && needed <= minutes && (answers[0] == NONE || pence < answers[0])) {
                        settle(pence, lads, horses);
                    }
                }
            }
        }
    }

    /** What years to come would bring, tried on a copy of the world. */
    private static final class Forecast {
        static final int YEARS = 30;
        static final int DRAWS = 16;

        private final World trial = new World();
        private final int[] copy = new int[World.LENGTH];
        private int seed;

        private void begin(World now) {
            now.writeTo(copy, 0);
            trial.readFrom(copy, 0);
        }

        int yearOfEnough(Ground ground, World now, int minutes, int most) {
            begin(now);
            for (int year = 1; year <= YEARS; year++) {
                spendYear(ground, minutes);
                if (trial.howManyAsked() <= most) {
                    return year;
                }
                trial.raiseStones(ground);
            }
            return NONE;
        }

        int leftBehind(Ground ground, World now, int minutes, int years) {
            begin(now);
            spendYear(ground, minutes);
            for (int year = 2; year <= years && year <= YEARS; year++) {
                trial.raiseStones(ground);
                spendYear(ground, minutes);
            }
            return trial.howManyAsked();
        }

        private void spendYear(Ground ground, int minutes) {
            int minutesLeft = minutes;
            for (int size = SIZES; size >= 1; size--) {
                for (int stone = 0; stone < trial.stones; stone++) {
                    if (trial.isAsked(stone) && trial.sizeOf(stone) == size) {
                        minutesLeft -= clearWithin(ground, stone, minutesLeft);
                    }
                }
            }
        }

        /** Clears a stone, if the minutes do for it; answers how many of them it took. */
        private int clearWithin(Ground ground, int stone, int minutes) {
            int needed = trial.clearingOf(ground, stone);
            if (needed > minutes) {
                return 0;
            }
            trial.takeUp(stone, World.IN_WALL);
            return needed;
        }

        /** The damage of the years is asked of one seed alone: it is the dearest part of a winter. */
        int harmOfFrost(Ground ground, World now, int firstSeed, int q, int winters) {
            begin(now);
            seed = firstSeed;
            int harm = 0;
            for (int winter = 0; winter < winters; winter++) {
                harm += trial.harmOfAll(ground, SIZES + 1);
                passFrostyWinter(ground, q);
            }
            return harm;
        }

        void passFrost(Ground ground, World now, int firstSeed, int q, int winters) {
            begin(now);
            seed = firstSeed;
            for (int winter = 0; winter < winters; winter++) {
                passFrostyWinter(ground, q);
            }
        }

        private void passFrostyWinter(Ground ground, int q) {
            trial.raiseStones(ground);
            for (int cell = 0; cell < CELLS; cell++) {
                // A lost cell draws nothing, but a full field goes on drawing.
                if (ground.hasCell(cell) && !trial.isLost(cell) && draw() < q) {
                    trial.addStone(cell, 1);
                }
            }
        }

        private int draw() {
            seed = seed * 1103515245 + 12345;
            return (seed >>> 16 & 0x7fff) % DRAWS;
        }

        int howMany() {
            return trial.howManyAsked();
        }

        int allSizes() {
            return trial.sizesAsked();
        }
    }
}
