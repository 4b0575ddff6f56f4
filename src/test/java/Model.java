import java.util.ArrayList;
import java.util.Collections;
import java.util.Comparator;
import java.util.HashMap;
import java.util.List;
import java.util.Map;
import java.util.NoSuchElementException;

/**
 * The document once more, written for plainness alone: lists, maps, copies, every choice tried out. The random runs
 * hold the program against it. It shares no code with the program.
 */
final class Model {
    static final class Fault extends RuntimeException {
        final int kind;
        final int place;

        Fault(int kind, int place) {
            this.kind = kind;
            this.place = place;
        }
    }

    /** Answered where trying out every choice would take too long. */
    static final long UNKNOWN = Long.MIN_VALUE;

    static final class Stone {
        int x;
        int y;
        int size;
        int year;
        int place;

        Stone copy() {
            Stone s = new Stone();
            s.x = x;
            s.y = y;
            s.size = size;
            s.year = year;
            s.place = place;
            return s;
        }
    }

    static final class State {
        List<Stone> stones = new ArrayList<>();
        Map<Integer, Integer> heaped = new HashMap<>();
        List<Integer> lost = new ArrayList<>();
        int sx;
        int sy;
        int year;
        int minutes;
        int damage;
        int soil;
        int wall;

        State copy() {
            State s = new State();
            for (Stone stone : stones) {
                s.stones.add(stone.copy());
            }
            s.heaped.putAll(heaped);
            s.lost.addAll(lost);
            s.sx = sx;
            s.sy = sy;
            s.year = year;
            s.minutes = minutes;
            s.damage = damage;
            s.soil = soil;
            s.wall = wall;
            return s;
        }

        int load() {
            int sum = 0;
            for (Stone s : stones) {
                sum += s.place == 1 ? s.size : 0;
            }
            return sum;
        }

        boolean lost(int x, int y) {
            return lost.contains(8 * y + x);
        }

        List<Stone> lyingAt(int x, int y) {
            List<Stone> list = new ArrayList<>();
            for (Stone s : stones) {
                if (s.place == 0 && s.x == x && s.y == y) {
                    list.add(s);
                }
            }
            return list;
        }

        int lying() {
            int n = 0;
            for (Stone s : stones) {
                n += s.place == 0 ? 1 : 0;
            }
            return n;
        }

        List<Stone> asked() {
            List<Stone> list = new ArrayList<>();
            for (Stone s : stones) {
                if (s.place == 0 && !lost(s.x, s.y)) {
                    list.add(s);
                }
            }
            return list;
        }

        void come(int x, int y, int size) {
            if (stones.size() < 60) {
                Stone s = new Stone();
                s.x = x;
                s.y = y;
                s.size = size;
                s.year = year;
                stones.add(s);
            }
        }
    }

    static final class Field {
        int w = 6;
        int h = 4;
        int n = 2;
        int a = 4;
        int k = 1;
        int b = 3;
        int p = 1;
        int f = 12;
        int bar = 5;
        Map<Integer, Integer> soil = new HashMap<>();

        int soil(int x, int y) {
            return soil.getOrDefault(8 * y + x, 5);
        }
    }

    private record Image(State state, List<State> works) { }

    private interface Term {
        int of(Map<String, Integer> names);
    }

    private List<Integer> tape = new ArrayList<>();
    private Field field = new Field();
    private State state = new State();
    private List<State> works = new ArrayList<>();
    private List<Image> images = new ArrayList<>();
    private List<int[]> book = new ArrayList<>();
    private Term damageLaw = names -> names.get("size") * 2;
    private Term riseLaw = names -> 0;
    private int fault = -1;
    private int refusedSteps;
    private final int[] refused = new int[3];

    // ---- reading

    private String text = "";
    private int at;

    private void skip() {
        while (at < text.length() && text.charAt(at) == ' ') {
            at++;
        }
    }

    private char peek() {
        skip();
        return at < text.length() ? text.charAt(at) : '\0';
    }

    private boolean ended() {
        skip();
        return at == text.length();
    }

    private void need(char c) {
        if (ended() || text.charAt(at) != c) {
            throw new Fault(1, at);
        }
        at++;
    }

    private int number(int low, int high) {
        skip();
        int begin = at;
        while (at < text.length() && "0123456789".indexOf(text.charAt(at)) >= 0) {
            at++;
        }
        if (begin == at) {
            throw new Fault(1, at);
        }
        java.math.BigInteger v = new java.math.BigInteger(text.substring(begin, at));
        if (v.compareTo(java.math.BigInteger.valueOf(low)) < 0 || v.compareTo(java.math.BigInteger.valueOf(high)) > 0) {
            throw new Fault(2, begin);
        }
        return v.intValue();
    }

    private String word() {
        skip();
        int begin = at;
        while (at < text.length() && text.charAt(at) >= 'a' && text.charAt(at) <= 'z') {
            at++;
        }
        return text.substring(begin, at);
    }

    private int open(int n, int most) {
        if (n < 0 || n > most || n > tape.size()) {
            throw bad();
        }
        StringBuilder sb = new StringBuilder();
        for (int i = 0; i < n; i++) {
            sb.append((char) (int) tape.get(i));
        }
        tape.clear();
        text = sb.toString();
        at = 0;
        fault = -1;
        return 0;
    }

    private IllegalArgumentException bad() {
        refused[2]++;
        return new IllegalArgumentException();
    }

    private void needCell(int x, int y) {
        if (x < 0 || x >= field.w || y < 0 || y >= field.h) {
            refused[0]++;
            throw new IndexOutOfBoundsException();
        }
    }

    private void needStone(int s) {
        if (s < 0 || s >= state.stones.size()) {
            refused[1]++;
            throw new NoSuchElementException();
        }
    }

    private void needWhat(int what, int most) {
        if (what < 0 || what > most) {
            throw bad();
        }
    }

    private void needIn(int v, int low, int high) {
        if (v < low || v > high) {
            throw bad();
        }
    }

    // ---- the face

    int feed(int... numbers) {
        if (tape.size() > 580) {
            return -1;
        }
        for (int v : numbers) {
            for (int i = 3; i >= 0; i--) {
                tape.add(v >> 8 * i & 255);
            }
        }
        return tape.size();
    }

    int field(int n) {
        open(n, 600);
        Field f = new Field();
        State s = new State();
        try {
            readField(f, s);
        } catch (Fault e) {
            fault = e.place;
            return e.kind - 10;
        }
        field = f;
        state = s;
        works = new ArrayList<>();
        images = new ArrayList<>();
        book = new ArrayList<>();
        damageLaw = names -> names.get("size") * 2;
        riseLaw = names -> 0;
        refusedSteps = 0;
        return s.stones.size();
    }

    private void readField(Field f, State s) {
        int clauses = 0;
        while (!ended()) {
            int begin = at;
            String word = word();
            clauses++;
            if (!List.of("field", "stone", "soil", "lads", "sledge", "bar").contains(word)) {
                throw new Fault(1, begin);
            }
            if (clauses > 60 || word.equals("stone") && s.stones.size() == 30) {
                throw new Fault(3, begin);
            }
            if (word.equals("field")) {
                if (clauses > 1) {
                    throw new Fault(4, begin);
                }
                f.w = number(1, 8);
                f.h = number(1, 6);
            } else if (word.equals("stone")) {
                s.come(number(0, f.w - 1), number(0, f.h - 1), number(1, 9));
            } else if (word.equals("soil")) {
                int x = number(0, f.w - 1);
                int y = number(0, f.h - 1);
                f.soil.put(8 * y + x, number(0, 99));
            } else if (word.equals("lads")) {
                f.n = number(1, 6);
                f.a = number(1, 9);
                f.k = number(1, 9);
            } else if (word.equals("sledge")) {
                f.b = number(0, 60);
                f.p = number(1, 9);
                f.f = number(1, 99);
            } else {
                f.bar = number(1, 30);
            }
            need(';');
        }
    }

    int law(int which, int n) {
        needWhat(which, 1);
        open(n, 150);
        Term term;
        try {
            term = sum(0);
            if (!ended()) {
                throw new Fault(1, at);
            }
        } catch (Fault e) {
            fault = e.place;
            return e.kind - 10;
        }
        if (which == 0) {
            damageLaw = term;
        } else {
            riseLaw = term;
        }
        return 1;
    }

    private Term sum(int open) {
        Term one = product(open);
        while (peek() == '+' || peek() == '-') {
            boolean plus = text.charAt(at++) == '+';
            Term left = one;
            Term right = product(open);
            one = plus ? names -> left.of(names) + right.of(names) : names -> left.of(names) - right.of(names);
        }
        return one;
    }

    private Term product(int open) {
        Term one = part(open);
        while (peek() == '*' || peek() == '/' || peek() == '%') {
            char sign = text.charAt(at++);
            Term left = one;
            Term right = part(open);
            if (sign == '*') {
                one = names -> left.of(names) * right.of(names);
            } else {
                one = names -> {
                    int r = right.of(names);
                    return r == 0 ? 0 : sign == '/' ? left.of(names) / r : left.of(names) % r;
                };
            }
        }
        return one;
    }

    private Term part(int open) {
        char c = peek();
        int begin = at;
        if (c >= '0' && c <= '9') {
            int v = number(0, 999);
            return names -> v;
        }
        if (c == '(') {
            if (open == 6) {
                throw new Fault(3, begin);
            }
            at++;
            Term inner = sum(open + 1);
            need(')');
            return inner;
        }
        String word = word();
        if (word.equals("if")) {
            if (open == 6) {
                throw new Fault(3, begin);
            }
            need('[');
            Term test = sum(open + 1);
            need(',');
            Term yes = sum(open + 1);
            need(',');
            Term no = sum(open + 1);
            need(']');
            return names -> test.of(names) > 0 ? yes.of(names) : no.of(names);
        }
        if (!List.of("size", "soil", "year", "many", "x", "y", "all").contains(word)) {
            throw new Fault(1, begin);
        }
        return names -> names.get(word);
    }

    private int harm(State s, int x, int y, int size) {
        int v = damageLaw.of(Map.of("size", size, "soil", field.soil(x, y), "year", s.year, "many",
                s.lyingAt(x, y).size(), "x", x, "y", y, "all", s.lying()));
        return v < 0 ? 0 : v > 999 ? 999 : v;
    }

    private int harm(State s) {
        int sum = 0;
        for (Stone stone : s.asked()) {
            sum += harm(s, stone.x, stone.y, stone.size);
        }
        return sum;
    }

    private int rise(State s, int x, int y, int year) {
        if (s.lost(x, y)) {
            return 0;
        }
        int v = riseLaw.of(Map.of("size", 0, "soil", field.soil(x, y), "year", year, "many",
                s.lyingAt(x, y).size(), "x", x, "y", y, "all", s.lying()));
        return v < 0 ? 0 : v > 2 ? 2 : v;
    }

    private void riseAll(State s) {
        s.year++;
        State before = s.copy();
        for (int y = 0; y < field.h; y++) {
            for (int x = 0; x < field.w; x++) {
                int many = rise(before, x, y, s.year);
                for (int i = 0; i < many; i++) {
                    s.come(x, y, (3 * x + 5 * y + 7 * s.year + i) % 9 + 1);
                }
            }
        }
    }

    // ---- work

    private static final class Step {
        String word;
        int x;
        int y;
        int times;
        List<Step> inner;
    }

    private int begun;
    private int done;
    private int refusedNow;

    int work(int n) {
        open(n, 200);
        if (works.size() == 20) {
            return -20;
        }
        List<Step> steps;
        try {
            steps = steps(0);
        } catch (Fault e) {
            fault = e.place;
            return e.kind - 10;
        }
        works.add(state.copy());
        begun = 0;
        done = 0;
        refusedNow = 0;
        run(steps);
        refusedSteps = refusedNow;
        return done;
    }

    private List<Step> steps(int open) {
        List<Step> list = new ArrayList<>();
        while (open == 0 ? !ended() : peek() != ']') {
            skip();
            int begin = at;
            Step step = new Step();
            step.word = word();
            switch (step.word) {
                case "to", "lift", "round" -> {
                    step.x = number(0, field.w - 1);
                    step.y = number(0, field.h - 1);
                }
                case "bar", "wall", "heap", "winter" -> { }
                case "again" -> {
                    if (open == 6) {
                        throw new Fault(3, begin);
                    }
                    step.times = number(0, 20);
                    need('[');
                    step.inner = steps(open + 1);
                    need(']');
                }
                default -> throw new Fault(1, begin);
            }
            need(';');
            list.add(step);
        }
        return list;
    }

    private void run(List<Step> steps) {
        for (Step step : steps) {
            if (begun == 300) {
                return;
            }
            begun++;
            if (step.inner != null) {
                for (int i = 0; i < step.times; i++) {
                    run(step.inner);
                }
            } else if (doStep(step)) {
                done++;
            } else {
                refusedNow++;
            }
        }
    }

    private boolean doStep(Step step) {
        State s = state;
        switch (step.word) {
            case "to":
                if (s.sx == step.x && s.sy == step.y) {
                    return false;
                }
                s.minutes += field.b + field.p * (Math.abs(s.sx - step.x) + Math.abs(s.sy - step.y));
                s.sx = step.x;
                s.sy = step.y;
                return true;
            case "lift": {
                List<Stone> list = load(step.x, step.y, false);
                if (list.isEmpty()) {
                    return false;
                }
                s.minutes += liftMinutes(list);
                list.forEach(stone -> stone.place = 1);
                return true;
            }
            case "bar": {
                List<Stone> list = load(s.sx, s.sy, true);
                if (list.isEmpty() || field.n == 1) {
                    return false;
                }
                list.forEach(stone -> s.minutes += field.bar * stone.size);
                list.forEach(stone -> stone.place = 1);
                return true;
            }
            case "wall":
                if (s.load() == 0) {
                    return false;
                }
                s.minutes += field.b + field.p * (s.sx + 1);
                s.wall += s.load();
                s.stones.forEach(stone -> stone.place = stone.place == 1 ? 2 : stone.place);
                s.sx = 0;
                return true;
            case "heap": {
                if (s.load() == 0) {
                    return false;
                }
                int here = 8 * s.sy + s.sx;
                for (Stone stone : s.stones) {
                    if (stone.place == 1 || stone.place == 0 && stone.x == s.sx && stone.y == s.sy) {
                        s.minutes += stone.place;
                        stone.place = 3;
                        s.heaped.merge(here, 1, Integer::sum);
                    }
                }
                if (!s.lost.contains(here)) {
                    s.lost.add(here);
                }
                return true;
            }
            case "round":
                if (s.lost(step.x, step.y)) {
                    return false;
                }
                s.lost.add(8 * step.y + step.x);
                return true;
            default:
                s.damage += harm(s);
                for (int y = 0; y < field.h; y++) {
                    for (int x = 0; x < field.w; x++) {
                        s.soil += s.lost(x, y) ? 0 : field.soil(x, y);
                    }
                }
                riseAll(s);
                return true;
        }
    }

    private List<Stone> load(int x, int y, boolean large) {
        List<Stone> list = new ArrayList<>();
        int full = state.load();
        for (Stone s : state.lyingAt(x, y)) {
            if (large == s.size > field.a && full + s.size <= field.f) {
                list.add(s);
                full += s.size;
            }
        }
        return list;
    }

    private int liftMinutes(List<Stone> list) {
        int sum = 0;
        for (Stone s : list) {
            sum += 2 * field.k * (Math.abs(s.x - state.sx) + Math.abs(s.y - state.sy)) + s.size;
        }
        int up = sum / field.n;
        return up * field.n < sum ? up + 1 : up;
    }

    int book(int n) {
        open(n, 100);
        List<int[]> lines = new ArrayList<>();
        try {
            while (!ended()) {
                int begin = at;
                int x = number(0, field.w - 1);
                if (lines.size() == 6) {
                    throw new Fault(3, begin);
                }
                skip();
                int yPlace = at;
                int y = number(0, field.h - 1);
                for (int[] line : lines) {
                    if (line[0] == x && line[1] == y) {
                        throw new Fault(2, yPlace);
                    }
                }
                lines.add(new int[] {x, y, number(0, 60)});
                need(';');
            }
        } catch (Fault e) {
            fault = e.place;
            return e.kind - 10;
        }
        book = lines;
        return lines.size();
    }

    int fault() {
        return fault;
    }

    int undo() {
        if (works.isEmpty()) {
            return -1;
        }
        state = works.remove(works.size() - 1).copy();
        refusedSteps = 0;
        return works.size();
    }

    private int placed(int place) {
        int n = 0;
        for (Stone s : state.stones) {
            n += s.place == place ? 1 : 0;
        }
        return n;
    }

    int told(int what) {
        needWhat(what, 9);
        int[] all = {field.w, field.h, state.stones.size(), placed(0), placed(1), placed(2), placed(3), state.year,
            book.size(), refusedSteps};
        return all[what];
    }

    int stone(int stone, int what) {
        needStone(stone);
        needWhat(what, 4);
        Stone s = state.stones.get(stone);
        return new int[] {s.x, s.y, s.size, s.year, s.place}[what];
    }

    private static int sizes(List<Stone> list) {
        int sum = 0;
        for (Stone s : list) {
            sum += s.size;
        }
        return sum;
    }

    int cell(int x, int y, int what) {
        needCell(x, y);
        needWhat(what, 4);
        List<Stone> here = state.lyingAt(x, y);
        return new int[] {field.soil(x, y), here.size(), sizes(here), state.lost(x, y) ? 1 : 0,
            state.heaped.getOrDefault(8 * y + x, 0)}[what];
    }

    int sledge(int what) {
        needWhat(what, 2);
        return new int[] {state.sx, state.sy, state.load()}[what];
    }

    int sums(int what) {
        needWhat(what, 3);
        return new int[] {state.minutes, state.damage, state.soil, state.wall}[what];
    }

    int damage(int x, int y, int size) {
        needCell(x, y);
        needIn(size, 1, 9);
        return harm(state, x, y, size);
    }

    int rises(int x, int y) {
        needCell(x, y);
        return rise(state, x, y, state.year + 1);
    }

    private int clearing(Stone s) {
        return s.size <= field.a ? 2 * field.k * (s.x + 1) + s.size : field.bar * s.size;
    }

    int clear(int stone) {
        needStone(stone);
        Stone s = state.stones.get(stone);
        return s.place == 0 ? clearing(s) : 0;
    }

    int stops(int y, int what) {
        needIn(y, 0, field.h - 1);
        needWhat(what, 2);
        List<Stone> row = new ArrayList<>();
        for (Stone s : state.asked()) {
            if (s.y == y && s.size <= field.a) {
                row.add(s);
            }
        }
        if (row.isEmpty()) {
            return 0;
        }
        List<int[]> all = new ArrayList<>();
        for (int bits = 1; bits < 1 << field.w; bits++) {
            int minutes = 0;
            int stops = 0;
            for (int x = 0; x < field.w; x++) {
                stops += bits >> x & 1;
            }
            for (Stone s : row) {
                int near = 99;
                for (int x = 0; x < field.w; x++) {
                    near = (bits >> x & 1) == 1 ? Math.min(near, Math.abs(x - s.x)) : near;
                }
                minutes += 2 * field.k * near;
            }
            all.add(new int[] {minutes + stops * field.b, stops, bits});
        }
        return least(all)[what];
    }

    private static int[] least(List<int[]> all) {
        return Collections.min(all, (one, other) -> java.util.Arrays.compare(one, other));
    }

    private long bestWay;
    private long bestDigits;

    long way(int what) {
        needWhat(what, 1);
        List<Integer> rows = new ArrayList<>();
        for (int y = 0; y < field.h; y++) {
            for (Stone s : state.asked()) {
                if (s.y == y && !rows.contains(y)) {
                    rows.add(y);
                }
            }
        }
        bestWay = Long.MAX_VALUE;
        walk(rows, 0, 0, 0, 0);
        return what == 0 ? bestWay : bestDigits;
    }

    private void walk(List<Integer> rows, int x, int y, long cost, long digits) {
        if (rows.isEmpty()) {
            if (cost < bestWay) {
                bestWay = cost;
                bestDigits = digits;
            }
            return;
        }
        for (Integer row : rows) {
            List<Integer> others = new ArrayList<>(rows);
            others.remove(row);
            int right = field.w - 1;
            int down = Math.abs(y - row);
            walk(others, right, row, cost + field.p * (down + x + right), digits * 10 + row);
            walk(others, 0, row, cost + field.p * (down + right - x + right), digits * 10 + row + 6);
        }
    }

    int heaps(int years, int what) {
        needIn(years, 0, 60);
        needWhat(what, 1);
        List<Integer> cells = new ArrayList<>();
        for (int y = 0; y < field.h; y++) {
            for (int x = 0; x < field.w; x++) {
                if (!state.lost(x, y)) {
                    cells.add(8 * y + x);
                }
            }
        }
        List<List<Integer>> choices = new ArrayList<>();
        choices.add(List.of());
        for (int one : cells) {
            choices.add(List.of(one));
        }
        for (int one : cells) {
            for (int two : cells) {
                if (one < two) {
                    choices.add(List.of(one, two));
                }
            }
        }
        int best = Integer.MAX_VALUE;
        int digits = 0;
        for (List<Integer> choice : choices) {
            int cost = 0;
            int code = 0;
            for (int cell : choice) {
                cost += years * field.soil(cell % 8, cell / 8);
                code = code * 64 + cell + 1;
            }
            for (Stone s : state.asked()) {
                int far = s.x + 1;
                for (int cell : choice) {
                    far = Math.min(far, Math.abs(s.x - cell % 8) + Math.abs(s.y - cell / 8));
                }
                cost += far * field.p;
            }
            if (cost < best) {
                best = cost;
                digits = code;
            }
        }
        return what == 0 ? best : digits;
    }

    int line(int years, int what) {
        needIn(years, 0, 60);
        needWhat(what, 1);
        List<int[]> all = new ArrayList<>();
        for (int size = 1; size <= 10; size++) {
            int cost = 0;
            for (Stone s : state.asked()) {
                cost += s.size >= size ? clearing(s) : years * harm(state, s.x, s.y, s.size);
            }
            all.add(new int[] {cost, size});
        }
        return least(all)[1 - what];
    }

    long first(int minutes, int what) {
        needIn(minutes, 0, 999);
        needWhat(what, 2);
        Map<Integer, Integer> costs = new HashMap<>();
        for (Stone s : state.asked()) {
            costs.merge(8 * s.y + s.x, clearing(s), Integer::sum);
        }
        List<Integer> cells = new ArrayList<>(costs.keySet());
        if (cells.size() > 12) {
            return UNKNOWN;
        }
        long[] best = {0, 0, 0};
        for (int choice = 0; choice < 1 << cells.size(); choice++) {
            long soil = 0;
            long spent = 0;
            long bits = 0;
            for (int i = 0; i < cells.size(); i++) {
                if ((choice >> i & 1) == 1) {
                    int cell = cells.get(i);
                    soil += field.soil(cell % 8, cell / 8);
                    spent += costs.get(cell);
                    bits += 1L << cell;
                }
            }
            boolean better = soil != best[0] ? soil > best[0] : spent != best[1] ? spent < best[1] : bits < best[2];
            if (spent <= minutes && better) {
                best = new long[] {soil, spent, bits};
            }
        }
        return best[what];
    }

    int mix(int minutes, int lad, int horse, int what) {
        needIn(minutes, 1, 9999);
        needIn(lad, 0, 99);
        needIn(horse, 0, 99);
        needWhat(what, 2);
        int all = 0;
        for (Stone s : state.asked()) {
            all += clearing(s);
        }
        List<int[]> ways = new ArrayList<>();
        for (int lads = 0; lads <= 6; lads++) {
            for (int horses = 0; horses <= 3; horses++) {
                int hands = lads + 3 * horses;
                if (hands == 0 && all > 0) {
                    continue;
                }
                int needed = all == 0 ? 0 : all / hands + (all % hands == 0 ? 0 : 1);
                if (needed <= minutes) {
                    ways.add(new int[] {needed * (lads * lad + horses * horse), lads, horses});
                }
            }
        }
        return ways.isEmpty() ? -1 : least(ways)[what];
    }

    private void clearYear(State s, int minutes) {
        int rest = minutes;
        List<Stone> list = s.asked();
        list.sort(Comparator.comparingInt(stone -> -stone.size));
        for (Stone stone : list) {
            if (clearing(stone) <= rest) {
                rest -= clearing(stone);
                stone.place = 2;
            }
        }
    }

    int enough(int minutes, int n) {
        needIn(minutes, 0, 9999);
        needIn(n, 0, 60);
        State s = state.copy();
        for (int year = 1; year <= 30; year++) {
            clearYear(s, minutes);
            if (s.asked().size() <= n) {
                return year;
            }
            riseAll(s);
        }
        return -1;
    }

    int left(int minutes, int years) {
        needIn(minutes, 0, 9999);
        needIn(years, 1, 30);
        State s = state.copy();
        for (int year = 1; year <= years; year++) {
            if (year > 1) {
                riseAll(s);
            }
            clearYear(s, minutes);
        }
        return s.asked().size();
    }

    int fits() {
        int bits = 0;
        for (int size = 1; size <= 9; size++) {
            int[] got = new int[book.size()];
            for (Stone s : state.asked()) {
                int best = -1;
                int near = 99;
                for (int i = 0; i < got.length; i++) {
                    int far = Math.abs(book.get(i)[0] - s.x) + Math.abs(book.get(i)[1] - s.y);
                    if (far < near) {
                        near = far;
                        best = i;
                    }
                }
                if (best >= 0 && s.size >= size) {
                    got[best]++;
                }
            }
            boolean fit = true;
            for (int i = 0; i < got.length; i++) {
                fit &= got[i] == book.get(i)[2];
            }
            bits += fit ? 1 << size - 1 : 0;
        }
        return bits;
    }

    private int[] frosty(int seed, int q, int winters) {
        State s = state.copy();
        long now = seed & 0xffffffffL;
        int harm = 0;
        for (int i = 0; i < winters; i++) {
            harm += harm(s);
            riseAll(s);
            for (int y = 0; y < field.h; y++) {
                for (int x = 0; x < field.w; x++) {
                    if (!s.lost(x, y)) {
                        now = (now * 1103515245L + 12345L) & 0xffffffffL;
                        if ((now / 65536 % 32768) % 16 < q) {
                            s.come(x, y, 1);
                        }
                    }
                }
            }
        }
        return new int[] {s.asked().size(), sizes(s.asked()), harm};
    }

    int frost(int seed, int q, int winters, int what) {
        needIn(q, 0, 16);
        needIn(winters, 1, 20);
        needWhat(what, 2);
        return frosty(seed, q, winters)[what];
    }

    int span(int seed, int many, int q, int winters, int n, int what) {
        needIn(many, 1, 20);
        needIn(q, 0, 16);
        needIn(winters, 1, 20);
        needIn(n, 0, 60);
        needWhat(what, 2);
        List<Integer> all = new ArrayList<>();
        int fine = 0;
        for (int i = 0; i < many; i++) {
            int lie = frosty(seed + i, q, winters)[0];
            all.add(lie);
            fine += lie <= n ? 1 : 0;
        }
        return what == 0 ? Collections.min(all) : what == 1 ? Collections.max(all) : fine;
    }

    int chosen(int what) {
        needWhat(what, 1);
        int best = -1;
        int bestValue = 0;
        for (int i = 0; i < state.stones.size(); i++) {
            Stone s = state.stones.get(i);
            int value = what == 0 ? s.size : 100 - Math.abs(s.x - state.sx) - Math.abs(s.y - state.sy);
            if (s.place == 0 && (best < 0 || value > bestValue)) {
                best = i;
                bestValue = value;
            }
        }
        return best;
    }

    int lifts(int x, int y) {
        needCell(x, y);
        List<Stone> list = load(x, y, false);
        return list.isEmpty() ? -1 : liftMinutes(list);
    }

    long loads(int x, int y) {
        needCell(x, y);
        long bits = 0;
        for (Stone s : load(x, y, false)) {
            bits += 1L << state.stones.indexOf(s);
        }
        return bits;
    }

    int stoniest() {
        int best = -1;
        int most = 0;
        for (int y = 0; y < field.h; y++) {
            for (int x = 0; x < field.w; x++) {
                int here = sizes(state.lyingAt(x, y));
                if (here > most) {
                    most = here;
                    best = 8 * y + x;
                }
            }
        }
        return best;
    }

    int clean() {
        int n = 0;
        for (int y = 0; y < field.h; y++) {
            for (int x = 0; x < field.w; x++) {
                n += !state.lost(x, y) && state.lyingAt(x, y).isEmpty() ? 1 : 0;
            }
        }
        return n;
    }

    int image() {
        if (images.size() == 3) {
            return -1;
        }
        images.add(new Image(state.copy(), new ArrayList<>(works)));
        return images.size();
    }

    int restore() {
        if (images.isEmpty()) {
            return -1;
        }
        Image image = images.remove(images.size() - 1);
        state = image.state();
        works = image.works();
        refusedSteps = 0;
        return images.size();
    }

    int status(int what) {
        return what < 0 || what > 2 ? -1 : refused[what];
    }

    int count(int what) {
        return what == 0 ? images.size() : what == 1 ? tape.size() : what == 2 ? works.size() : -1;
    }
}
