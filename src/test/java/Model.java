import java.util.ArrayList;
import java.util.HashMap;
import java.util.List;
import java.util.Map;
import java.util.TreeSet;
import java.util.regex.Matcher;
import java.util.regex.Pattern;

/** The document told a second time, slowly and with all of the Java library, to hold SkySpire against. */
final class Model {
    static final int NONE = -1;

    static final class Fault extends RuntimeException {
        final int number;

        Fault(int place, int kind) {
            number = 1 + 8 * place + kind;
        }
    }

    interface Sum {
        long of(State s, int pen);
    }

    interface Fact {
        boolean holds(State s, int pen);
    }

    record Clause(Sum sum, Fact test) { }

    record Stroke(int pen, int day) { }

    record Pen(int cell, int stiff, boolean stayed) { }

    record Wind(int way, int force) { }

    record Note(int n, int cell, int pen) { }

    static final class State {
        int side, fades, day, claps;
        List<Pen> pens = new ArrayList<>();
        List<Wind> winds = new ArrayList<>();
        TreeSet<Integer> mark = new TreeSet<>();
        Map<Integer, Stroke> strokes = new HashMap<>();

        State copy() {
            State c = new State();
            c.side = side;
            c.fades = fades;
            c.day = day;
            c.claps = claps;
            c.pens = new ArrayList<>(pens);
            c.winds = new ArrayList<>(winds);
            c.mark = mark;
            c.strokes = new HashMap<>(strokes);
            return c;
        }

        int cells() {
            return side * side;
        }

        boolean cell(int c) {
            return c >= 0 && c < cells();
        }

        boolean pen(int p) {
            return p >= 0 && p < pens.size();
        }

        Wind wind(int d) {
            return winds.isEmpty() ? new Wind(0, 0) : winds.get(d % winds.size());
        }

        int own(int p) {
            return (int) strokes.values().stream().filter(s -> s.pen == p).count();
        }

        int at(int c) {
            return strokes.containsKey(c) ? strokes.get(c).pen : NONE;
        }

        int like() {
            int n = 0;
            for (int c = 0; c < cells(); c++) {
                n += strokes.containsKey(c) == mark.contains(c) ? 1 : 0;
            }
            return n;
        }

        int stayedBits() {
            int b = 0;
            for (int p = 0; p < pens.size(); p++) {
                b += pens.get(p).stayed ? 1 << p : 0;
            }
            return b;
        }

        void stayed(int p, boolean is) {
            pens.set(p, new Pen(pens.get(p).cell, pens.get(p).stiff, is));
        }

        void put(int p, int c) {
            pens.set(p, new Pen(c, pens.get(p).stiff, pens.get(p).stayed));
        }

        void stiff(int p, int s) {
            pens.set(p, new Pen(pens.get(p).cell, s, pens.get(p).stayed));
        }

        int go(int c, int way) {
            int row = c / side + (way == 0 ? -1 : way == 2 ? 1 : 0);
            int column = c % side + (way == 3 ? -1 : way == 1 ? 1 : 0);
            return row < 0 || column < 0 || row >= side || column >= side ? NONE : row * side + column;
        }

        int pass(List<Clause> rule) {
            int bits = 0;
            for (int p = 0; p < pens.size(); p++) {
                if (!pens.get(p).stayed && (rule == null || value(rule, p) > 0)) {
                    bits |= 1 << p;
                }
            }
            Map<Integer, List<Integer>> met = new HashMap<>();
            for (int p = 0; p < pens.size(); p++) {
                Pen q = pens.get(p);
                if (!q.stayed && q.stiff <= wind(day).force) {
                    int to = go(q.cell, wind(day).way);
                    put(p, to == NONE ? q.cell : to);
                }
                if ((bits >> p & 1) == 1) {
                    met.computeIfAbsent(pens.get(p).cell, k -> new ArrayList<>()).add(p);
                }
            }
            for (Map.Entry<Integer, List<Integer>> e : met.entrySet()) {
                if (e.getValue().size() == 1) {
                    strokes.put(e.getKey(), new Stroke(e.getValue().get(0), day));
                } else {
                    strokes.remove(e.getKey());
                    claps++;
                }
            }
            day++;
            strokes.values().removeIf(s -> s.day < day - fades);
            return bits;
        }

        long value(List<Clause> rule, int p) {
            for (Clause c : rule) {
                if (c.test == null || c.test.holds(this, p)) {
                    return c.sum.of(this, p);
                }
            }
            return 0;
        }

        State after(int n, List<Clause> rule) {
            State c = copy();
            for (int i = 0; i < n; i++) {
                c.pass(rule);
            }
            return c;
        }
    }

    /** All that an IMAGE keeps. */
    static final class Kept {
        State told = new State();
        State now = new State();
        List<State> past = new ArrayList<>();
        List<Note> notes = new ArrayList<>();
        int x;
        int force = NONE;

        Kept copy() {
            Kept k = new Kept();
            k.told = told;
            k.now = now.copy();
            k.past = new ArrayList<>(past);
            k.notes = new ArrayList<>(notes);
            k.x = x;
            k.force = force;
            return k;
        }
    }

    Kept k = new Kept();
    final Kept[] images = new Kept[4];
    final List<List<Clause>> rules = new ArrayList<>();
    String tape = "";

    // ---- texts

    private static final Pattern TOKEN = Pattern.compile("[a-z]+|[0-9]+|<=|>=|[^ ]", Pattern.DOTALL);

    private List<String> tokens;
    private List<Integer> places;
    private int at;
    private int parts;

    private void cut(String text) {
        tokens = new ArrayList<>();
        places = new ArrayList<>();
        Matcher m = TOKEN.matcher(text);
        while (m.find()) {
            tokens.add(m.group());
            places.add(m.start());
        }
        tokens.add("");
        places.add(text.length());
        at = 0;
        parts = 0;
    }

    private String token() {
        return tokens.get(at);
    }

    private Fault fault(int kind) {
        return new Fault(places.get(at), kind);
    }

    private boolean eat(String t) {
        if (token().equals(t)) {
            at++;
            return true;
        }
        return false;
    }

    private int number(int least, int most) {
        if (!token().matches("[0-9]+")) {
            throw fault(0);
        }
        if (token().length() > 5 || Integer.parseInt(token()) < least || Integer.parseInt(token()) > most) {
            throw fault(1);
        }
        return Integer.parseInt(tokens.get(at++));
    }

    private State readSky(String text) {
        cut(text);
        State s = new State();
        int clauses = 0;
        do {
            String w = token();
            if (!List.of("sky", "pen", "wind", "mark").contains(w)) {
                throw fault(0);
            }
            if (++clauses > 40 || w.equals("sky") != (clauses == 1) || w.equals("pen") && s.pens.size() == 5
                || w.equals("wind") && s.winds.size() == 12) {
                throw fault(4);
            }
            at++;
            switch (w) {
                case "sky" -> {
                    s.side = number(2, 6);
                    s.fades = number(1, 60);
                }
                case "pen" -> {
                    int c = number(0, s.cells() - 1);
                    s.pens.add(new Pen(c, number(0, 9), false));
                }
                case "wind" -> {
                    int way = number(0, 3);
                    s.winds.add(new Wind(way, number(0, 9)));
                }
                default -> s.mark.add(number(0, s.cells() - 1));
            }
        } while (eat(";"));
        if (!token().isEmpty()) {
            throw fault(0);
        }
        return s;
    }

    private List<Clause> readRule(String text) {
        cut(text);
        List<Clause> rule = new ArrayList<>();
        do {
            if (!token().equals("write")) {
                throw fault(0);
            }
            if (rule.size() == 12) {
                throw fault(4);
            }
            at++;
            Sum sum = sum();
            rule.add(new Clause(sum, eat("if") ? test(0) : null));
        } while (eat(";"));
        if (!token().isEmpty()) {
            throw fault(0);
        }
        return rule;
    }

    private Fact test(int deep) {
        Fact f = part(deep);
        while (eat("or")) {
            Fact a = f;
            Fact b = part(deep);
            f = (s, p) -> a.holds(s, p) || b.holds(s, p);
        }
        return f;
    }

    private Fact part(int deep) {
        Fact f = fact(deep);
        while (eat("and")) {
            Fact a = f;
            Fact b = fact(deep);
            f = (s, p) -> a.holds(s, p) && b.holds(s, p);
        }
        return f;
    }

    private Fact fact(int deep) {
        if (token().equals("[") || token().equals("not")) {
            if (deep == 10) {
                throw fault(2);
            }
            if (eat("not")) {
                Fact a = fact(deep + 1);
                return (s, p) -> !a.holds(s, p);
            }
            at++;
            Fact a = test(deep + 1);
            if (!eat("]")) {
                throw fault(0);
            }
            return a;
        }
        Sum a = sum();
        String sign = token();
        if (!List.of("<", "<=", "=", ">=", ">").contains(sign)) {
            throw fault(0);
        }
        if (++parts > 60) {
            throw fault(3);
        }
        at++;
        Sum b = sum();
        return (s, p) -> {
            int c = Long.compare(a.of(s, p), b.of(s, p));
            return sign.contains("=") && c == 0 || sign.startsWith("<") && c < 0 || sign.startsWith(">") && c > 0;
        };
    }

    private Sum sum() {
        Sum f = term();
        while (token().equals("+") || token().equals("-")) {
            boolean plus = tokens.get(at++).equals("+");
            Sum a = f;
            Sum b = term();
            f = (s, p) -> plus ? a.of(s, p) + b.of(s, p) : a.of(s, p) - b.of(s, p);
        }
        return f;
    }

    private Sum term() {
        Sum f = value();
        while (token().equals("*") || token().equals("/") || token().equals("%")) {
            String sign = tokens.get(at++);
            Sum a = f;
            Sum b = value();
            f = (s, p) -> {
                long x = a.of(s, p);
                long y = b.of(s, p);
                return sign.equals("*") ? x * y : y == 0 ? 0 : sign.equals("/") ? x / y : x % y;
            };
        }
        return f;
    }

    private Sum value() {
        String w = token();
        boolean word = List.of("pen", "row", "column", "stiff", "way", "force", "ink", "here", "mine", "mark", "next",
            "day").contains(w);
        if (!word && !w.matches("[0-9]+")) {
            throw fault(0);
        }
        if (!word && w.length() > 5) {
            throw fault(1);
        }
        if (++parts > 60) {
            throw fault(3);
        }
        at++;
        return word ? (s, p) -> wordOf(w, s, p) : (s, p) -> Integer.parseInt(w);
    }

    private static long wordOf(String w, State s, int p) {
        Pen pen = s.pens.get(p);
        return switch (w) {
            case "pen" -> p;
            case "row" -> pen.cell / s.side;
            case "column" -> pen.cell % s.side;
            case "stiff" -> pen.stiff;
            case "way" -> s.wind(s.day).way;
            case "force" -> s.wind(s.day).force;
            case "ink" -> s.own(p);
            case "here" -> s.at(pen.cell) != NONE ? 1 : 0;
            case "mine" -> s.at(pen.cell) == p ? 1 : 0;
            case "mark" -> s.mark.contains(pen.cell) ? 1 : 0;
            case "next" -> s.wind(s.day + 1).force;
            default -> s.day;
        };
    }

    // ---- the face

    private boolean there() {
        return k.now.side > 0;
    }

    private List<Clause> rule0() {
        return k.force == NONE ? null : rules.get(k.force);
    }

    private static boolean in(int n, int a, int b) {
        return n >= a && n <= b;
    }

    private void act() {
        k.past.add(k.now.copy());
        if (k.past.size() > 20) {
            k.past.remove(0);
        }
    }

    int feed(int a, int b, int c, int d, int e) {
        if (tape.length() + 20 > 400) {
            return NONE;
        }
        StringBuilder t = new StringBuilder(tape);
        for (int n : new int[] {a, b, c, d, e}) {
            t.append((char) (n >>> 24)).append((char) (n >> 16 & 255)).append((char) (n >> 8 & 255)).append((char) (n & 255));
        }
        tape = t.toString();
        return tape.length();
    }

    int end(int n) {
        if (n < 0 || n > tape.length()) {
            return NONE;
        }
        tape = tape.substring(0, n);
        return n;
    }

    int sky() {
        String text = tape;
        tape = "";
        try {
            State s = readSky(text);
            k.told = s;
            k.now = s.copy();
            k.past.clear();
            k.notes.clear();
            return s.pens.size();
        } catch (Fault f) {
            return -2 - f.number;
        }
    }

    int rule() {
        if (rules.size() == 6) {
            return NONE;
        }
        String text = tape;
        tape = "";
        try {
            rules.add(readRule(text));
            return rules.size() - 1;
        } catch (Fault f) {
            return -2 - f.number;
        }
    }

    int force(int rule) {
        if (!in(rule, -1, rules.size() - 1)) {
            return -2;
        }
        int was = k.force;
        k.force = rule;
        return was;
    }

    int pen(int pen, int what) {
        if (!k.now.pen(pen) || !in(what, 0, 3)) {
            return NONE;
        }
        Pen p = k.now.pens.get(pen);
        return new int[] {p.cell, p.stiff, p.stayed ? 1 : 0, k.now.own(pen)}[what];
    }

    int cell(int cell, int what) {
        if (!k.now.cell(cell) || !in(what, 0, 2)) {
            return -2;
        }
        Stroke s = k.now.strokes.getOrDefault(cell, new Stroke(NONE, NONE));
        return new int[] {s.pen, s.day, k.now.mark.contains(cell) ? 1 : 0}[what];
    }

    int day() {
        if (!there() || k.now.day == 999) {
            return NONE;
        }
        act();
        return k.now.pass(rule0());
    }

    int stay(int pen) {
        if (!k.now.pen(pen)) {
            return NONE;
        }
        act();
        k.now.stayed(pen, !k.now.pens.get(pen).stayed);
        return k.now.stayedBits();
    }

    int set(int pen, int cell) {
        if (!k.now.pen(pen) || !k.now.cell(cell) || k.now.pens.get(pen).cell == cell) {
            return NONE;
        }
        act();
        int was = k.now.pens.get(pen).cell;
        k.now.put(pen, cell);
        return was;
    }

    int bend(int pen, int stiff) {
        if (!k.now.pen(pen) || !in(stiff, 0, 9) || k.now.pens.get(pen).stiff == stiff) {
            return NONE;
        }
        act();
        int was = k.now.pens.get(pen).stiff;
        k.now.stiff(pen, stiff);
        return was;
    }

    int blot(int cell) {
        if (!k.now.strokes.containsKey(cell)) {
            return NONE;
        }
        act();
        return k.now.strokes.remove(cell).pen;
    }

    int undo() {
        if (k.past.isEmpty()) {
            return -2;
        }
        k.now = k.past.remove(k.past.size() - 1).copy();
        return k.past.size();
    }

    int ahead(int number, int n, int what) {
        if (!there() || !in(n, 0, 100) || !in(what, 0, 3) || what == 0 && !k.now.cell(number)
            || what == 1 && !k.now.pen(number)) {
            return -2;
        }
        State s = k.now.after(n, rule0());
        return what == 0 ? s.at(number) : what == 1 ? s.pens.get(number).cell : what == 2 ? s.strokes.size() : s.like();
    }

    int sign() {
        return first(false);
    }

    int clean() {
        return first(true);
    }

    private int first(boolean alone) {
        if (!there()) {
            return NONE;
        }
        for (int n = 0; n < 100; n++) {
            State s = k.now.after(n, rule0());
            boolean all = s.strokes.keySet().containsAll(s.mark);
            if (alone ? all && s.strokes.size() == s.mark.size() : all) {
                return k.now.day + n;
            }
        }
        return -2;
    }

    int hold(int n, int what) {
        if (!there() || !in(n, 1, 60) || !in(what, 0, 1)) {
            return NONE;
        }
        int most = 0;
        List<int[]> all = new ArrayList<>();
        for (int bits = 0; bits < 1 << k.now.pens.size(); bits++) {
            State s = k.now.copy();
            for (int p = 0; p < s.pens.size(); p++) {
                s.stayed(p, (bits >> p & 1) == 1);
            }
            int like = s.after(n, rule0()).like();
            most = Math.max(most, like);
            all.add(new int[] {like, Integer.bitCount(bits), bits});
        }
        int best = most;
        int set = all.stream().filter(a -> a[0] == best)
            .min((a, b) -> a[1] != b[1] ? a[1] - b[1] : a[2] - b[2]).orElseThrow()[2];
        return what == 0 ? set : most;
    }

    int wrote(int cell, int n) {
        if (!k.now.cell(cell) || !in(n, 1, 60)) {
            return NONE;
        }
        int bits = 0;
        for (int p = 0; p < k.now.pens.size(); p++) {
            State s = k.now.copy();
            for (int q = 0; q < s.pens.size(); q++) {
                if (q != p) {
                    s.stayed(q, true);
                }
            }
            for (int i = 0; i < n; i++) {
                // Alone it never claps, and no STROKE fades on its own DAY: to write there is to leave one.
                boolean writes = (s.pass(rule0()) >> p & 1) == 1;
                if (writes && s.pens.get(p).cell == cell) {
                    bits |= 1 << p;
                }
            }
        }
        return bits;
    }

    int came(int pen, int cell, int n, int what) {
        if (!k.now.pen(pen) || !k.now.cell(cell) || !in(n, 1, 60) || !in(what, 0, 1)) {
            return NONE;
        }
        List<Integer> from = new ArrayList<>();
        for (int c = 0; c < k.now.cells(); c++) {
            State s = k.now.copy();
            s.put(pen, c);
            if (s.after(n, rule0()).pens.get(pen).cell == cell) {
                from.add(c);
            }
        }
        return what == 0 ? from.size() : from.isEmpty() ? -2 : from.get(0);
    }

    int change(int n, int what) {
        if (!there() || !in(n, 1, 60) || !in(what, 0, 2)) {
            return -2;
        }
        int[] best = {k.now.after(n, rule0()).like(), NONE, NONE};
        for (int a = 0; a < k.now.winds.size(); a++) {
            for (int b = a + 1; b < k.now.winds.size(); b++) {
                State s = k.now.copy();
                s.winds.set(a, k.now.winds.get(b));
                s.winds.set(b, k.now.winds.get(a));
                int like = s.after(n, rule0()).like();
                if (like > best[0]) {
                    best = new int[] {like, a, b};
                }
            }
        }
        return best[what];
    }

    private boolean two(int one, int other) {
        return k.now.pen(one) && k.now.pen(other) && one != other;
    }

    int game(int one, int other, int n, int what) {
        if (!two(one, other) || !in(n, 1, 4) || !in(what, 0, 1)) {
            return -1000;
        }
        return turn(k.now, one, other, n, true)[what];
    }

    private int[] turn(State s, int one, int other, int left, boolean first) {
        if (left == 0) {
            return new int[] {s.own(one) - s.own(other), NONE};
        }
        int p = first ? one : other;
        int[] best = null;
        for (int way = -1; way < 4; way++) {
            int to = way < 0 ? s.pens.get(p).cell : s.go(s.pens.get(p).cell, way);
            if (to == NONE) {
                continue;
            }
            State t = s.copy();
            t.put(p, to);
            t.strokes.put(to, new Stroke(p, s.day));
            int got = turn(t, one, other, left - 1, !first)[0];
            if (best == null || first && got > best[0] || !first && got < best[0]) {
                best = new int[] {got, way};
            }
        }
        return best;
    }

    int rests(int one, int other, int n, int what) {
        if (!two(one, other) || !in(n, 1, 20) || !in(what, 0, 2)) {
            return NONE;
        }
        int[][][] has = new int[10][10][];
        for (int a = 0; a < 10; a += 3) {
            for (int b = 0; b < 10; b += 3) {
                State s = k.now.copy();
                s.stiff(one, a);
                s.stiff(other, b);
                s = s.after(n, rule0());
                has[a][b] = new int[] {s.own(one), s.own(other)};
            }
        }
        List<int[]> rest = new ArrayList<>();
        for (int a = 0; a < 10; a += 3) {
            for (int b = 0; b < 10; b += 3) {
                boolean good = true;
                for (int c = 0; c < 10; c += 3) {
                    good &= has[c][b][0] <= has[a][b][0] && has[a][c][1] <= has[a][b][1];
                }
                if (good) {
                    rest.add(new int[] {a, b});
                }
            }
        }
        return what == 0 ? rest.size() : rest.isEmpty() ? -2 : rest.get(0)[what - 1];
    }

    int pence(int much, int pen) {
        if (!k.now.pen(pen) || !in(much, 0, 9999)) {
            return NONE;
        }
        int all = k.now.strokes.size();
        if (all == 0) {
            return 0;
        }
        int left = much;
        int[] gets = new int[k.now.pens.size()];
        List<Integer> order = new ArrayList<>();
        for (int p = 0; p < gets.length; p++) {
            gets[p] = much * k.now.own(p) / all;
            left -= gets[p];
            order.add(p);
        }
        order.sort((a, b) -> much * k.now.own(b) % all - much * k.now.own(a) % all);
        for (int i = 0; i < left; i++) {
            gets[order.get(i)]++;
        }
        return gets[pen];
    }

    private int parting(List<State> all, int what) {
        int[] best = {NONE, Integer.MAX_VALUE};
        for (int c = 0; c < k.now.cells(); c++) {
            Map<Integer, Integer> groups = new HashMap<>();
            for (State s : all) {
                groups.merge(s.at(c), 1, Integer::sum);
            }
            int most = groups.values().stream().max(Integer::compare).orElseThrow();
            if (most < best[1]) {
                best = new int[] {c, most};
            }
        }
        return best[what];
    }

    int read(int n, int what) {
        if (!there() || !in(n, 1, 60) || !in(what, 0, 1)) {
            return NONE;
        }
        List<State> all = new ArrayList<>();
        all.add(k.now.after(n, null));
        rules.forEach(r -> all.add(k.now.after(n, r)));
        return parting(all, what);
    }

    int note(int n, int cell, int pen) {
        if (n == NONE) {
            k.notes.clear();
            return 0;
        }
        if (!in(n, 0, 60) || !k.now.cell(cell) || pen != NONE && !k.now.pen(pen) || k.notes.size() == 10) {
            return -2;
        }
        k.notes.add(new Note(n, cell, pen));
        return k.notes.size();
    }

    private List<Integer> fitting() {
        List<Integer> fit = new ArrayList<>();
        for (int r = -1; r < rules.size(); r++) {
            List<Clause> rule = r < 0 ? null : rules.get(r);
            if (k.notes.stream().allMatch(o -> k.told.after(o.n, rule).at(o.cell) == o.pen)) {
                fit.add(r);
            }
        }
        return fit;
    }

    int ruled(int what) {
        if (!there() || !in(what, 0, 1)) {
            return -3;
        }
        List<Integer> fit = fitting();
        return what == 0 ? fit.size() : fit.isEmpty() ? -2 : fit.get(0);
    }

    int look(int n, int what) {
        if (!there() || !in(n, 0, 60) || !in(what, 0, 1)) {
            return NONE;
        }
        List<State> all = new ArrayList<>();
        fitting().forEach(r -> all.add(k.told.after(n, r < 0 ? null : rules.get(r))));
        return all.isEmpty() ? -2 : parting(all, what);
    }

    int seed(int x) {
        if (x < 0) {
            return NONE;
        }
        int was = k.x;
        k.x = x;
        return was;
    }

    int rains(int m, int n, int p, int what) {
        if (!there() || !in(m, 1, 10) || !in(n, 1, 60) || !in(p, 0, 100) || !in(what, 0, 1)) {
            return NONE;
        }
        long x = k.x;
        int[] sums = new int[2];
        for (int i = 0; i < m; i++) {
            State s = k.now.copy();
            s.claps = 0;
            for (int d = 0; d < n; d++) {
                x = (x * 1103515245 + 12345) % 2147483648L;
                if (x / 65536 % 100 < p) {
                    x = (x * 1103515245 + 12345) % 2147483648L;
                    s.strokes.remove((int) (x / 65536 % s.cells()));
                }
                s.pass(rule0());
            }
            sums[0] += s.like();
            sums[1] += s.claps;
        }
        return sums[what];
    }

    int count(int what) {
        State s = k.now;
        return in(what, 0, 14) ? new int[] {s.side, s.fades, s.pens.size(), s.winds.size(), rules.size(), k.force, s.day,
            s.strokes.size(), s.like(), s.claps, s.stayedBits(), k.notes.size(), k.past.size(), k.x, tape.length()}[what]
            : NONE;
    }

    int image(int i) {
        if (!in(i, 0, 3)) {
            return NONE;
        }
        images[i] = k.copy();
        return k.now.day;
    }

    int back(int i) {
        if (!in(i, 0, 3) || images[i] == null) {
            return NONE;
        }
        k = images[i].copy();
        return k.now.day;
    }
}
