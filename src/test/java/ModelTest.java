import java.util.ArrayList;
import java.util.List;
import java.util.Random;

/** Long drawn runs of calls, each answer and the whole state held against the Model. */
public final class ModelTest {
    private static final int RUNS = 400;
    private static final int CALLS = 110;
    private static final String SIGNS = " ;[]<>=+-*/%0123456789abcdefghijklmnopqrstuvwxyz,(A\n\u00e9\u00ff\0";

    private final Random random;
    private final SkySpire x = new SkySpire();
    private final Model y = new Model();
    private final List<String> told = new ArrayList<>();

    private ModelTest(long seed) {
        random = new Random(seed);
    }

    private int upTo(int n) {
        return random.nextInt(n + 1);
    }

    private String oneOf(String... all) {
        return all[random.nextInt(all.length)];
    }

    private String blanks() {
        return random.nextInt(5) == 0 ? "  ".substring(random.nextInt(3)) : "";
    }

    private String skyText() {
        int side = 2 + upTo(4);
        StringBuilder t = new StringBuilder(blanks() + "sky " + side + " " + (1 + upTo(random.nextBoolean() ? 5 : 59)));
        int clauses = upTo(random.nextInt(6) == 0 ? 45 : 14);
        for (int i = 0; i < clauses; i++) {
            int cell = upTo(side * side - 1);
            t.append(blanks()).append(';').append(blanks()).append(switch (upTo(3)) {
                case 0 -> "pen " + cell + " " + upTo(9);
                case 1, 2 -> random.nextInt(3) == 0 ? "mark " + cell : "wind " + upTo(3) + " " + upTo(9);
                default -> random.nextInt(2) == 0 ? "pen" + cell + " " + upTo(4) : "mark" + cell;
            });
        }
        return spoilt(t.toString());
    }

    private String ruleText() {
        StringBuilder t = new StringBuilder();
        int clauses = 1 + upTo(random.nextInt(8) == 0 ? 13 : 3);
        int rich = random.nextInt(5) == 0 ? 5 : 2;
        for (int i = 0; i < clauses; i++) {
            t.append(i > 0 ? ";" : "").append("write ").append(sum(rich));
            if (upTo(3) > 0) {
                t.append(" if ").append(test(rich));
            }
        }
        return spoilt(t.toString());
    }

    private String sum(int rich) {
        StringBuilder t = new StringBuilder(value());
        for (int i = upTo(rich); i > 0; i--) {
            t.append(blanks()).append(oneOf("+", "-", "*", "/", "%")).append(blanks()).append(value());
        }
        return t.toString();
    }

    private String value() {
        return switch (upTo(2)) {
            case 0 -> "" + upTo(random.nextBoolean() ? 3 : 99999);
            default -> oneOf("pen", "row", "column", "stiff", "way", "force", "ink", "here", "mine", "mark", "next", "day");
        };
    }

    private String test(int rich) {
        StringBuilder t = new StringBuilder(fact(rich));
        for (int i = upTo(rich) / 2; i > 0; i--) {
            t.append(oneOf(" and ", " or ")).append(fact(rich));
        }
        return t.toString();
    }

    private String fact(int rich) {
        return switch (upTo(5)) {
            case 0 -> "not " + (rich > 0 ? fact(rich - 1) : "1=1");
            case 1 -> "[" + (rich > 0 ? test(rich - 1) : "0<1") + "]";
            default -> sum(rich / 2) + oneOf("<", "<=", "=", ">=", ">") + sum(rich / 2);
        };
    }

    private String spoilt(String text) {
        StringBuilder t = new StringBuilder(text);
        if (random.nextInt(4) == 0) {
            for (int i = upTo(2); i >= 0 && t.length() > 0; i--) {
                int place = random.nextInt(t.length());
                switch (upTo(3)) {
                    case 0 -> t.deleteCharAt(place);
                    case 1 -> t.setCharAt(place, SIGNS.charAt(random.nextInt(SIGNS.length())));
                    case 2 -> t.insert(place, SIGNS.charAt(random.nextInt(SIGNS.length())));
                    default -> t.insert(place, oneOf("not ", "[", "write ", "sky ", "000000", ";", " if ", " and "));
                }
            }
        }
        return t.length() > 400 ? t.substring(0, 400) : t.toString();
    }

    private boolean same(String call, int got, int due) {
        told.add(call + " = " + got);
        boolean same = got == due;
        for (int what = -1; what <= 15; what++) {
            same &= x.count(what) == y.count(what);
        }
        for (int pen = -1; pen <= 5; pen++) {
            for (int what = -1; what <= 4; what++) {
                same &= x.pen(pen, what) == y.pen(pen, what);
            }
        }
        for (int cell = -1; cell <= 36; cell++) {
            for (int what = -1; what <= 3; what++) {
                same &= x.cell(cell, what) == y.cell(cell, what);
            }
        }
        if (!same) {
            told.forEach(System.out::println);
            System.out.println("the last row: due is " + due + ", or the state differs behind it");
        }
        return same;
    }

    private boolean tell(String text) {
        Texts.tape(x, text);
        y.tape = text;
        told.add("TAPE: " + text);
        return true;
    }

    private int cellNumber() {
        return random.nextInt(12) == 0 ? oneIn(-1, -2, 36, 99, Integer.MAX_VALUE) : upTo(Math.max(1, y.k.now.cells()));
    }

    private int penNumber() {
        return random.nextInt(12) == 0 ? oneIn(-1, 5, 31, 32, Integer.MIN_VALUE) : upTo(Math.max(1, y.k.now.pens.size() - 1));
    }

    private int oneIn(int... all) {
        return all[random.nextInt(all.length)];
    }

    private int days(int most) {
        return random.nextInt(12) == 0 ? oneIn(0, -1, most, most + 1, Integer.MAX_VALUE) : 1 + upTo(9);
    }

    private int what(int most) {
        return random.nextInt(12) == 0 ? oneIn(-1, most, most + 1) : upTo(most);
    }

    private boolean act() {
        int a = random.nextInt(16) == 0 ? NOTHING : penNumber();
        int c = cellNumber();
        int s = random.nextInt(9) == 0 ? oneIn(-1, 10) : upTo(9);
        return switch (upTo(9)) {
            case 0 -> same("stay " + a, x.stay(a), y.stay(a));
            case 1 -> same("set " + a + " " + c, x.set(a, c), y.set(a, c));
            case 2 -> same("bend " + a + " " + s, x.bend(a, s), y.bend(a, s));
            case 3 -> same("blot " + c, x.blot(c), y.blot(c));
            case 4 -> same("undo", x.undo(), y.undo());
            default -> same("day", x.day(), y.day());
        };
    }

    private static final int NOTHING = -7;

    private boolean tellOne() {
        int r = upTo(7) - 1;
        int k = upTo(4) - random.nextInt(2);
        return switch (upTo(11)) {
            case 0 -> tell(skyText()) && same("sky", x.sky(), y.sky());
            case 1, 2 -> tell(ruleText()) && same("rule", x.rule(), y.rule());
            case 3, 4, 5 -> same("force " + r, x.force(r), y.force(r));
            case 6 -> same("image " + k, x.image(k), y.image(k));
            case 7 -> same("back " + k, x.back(k), y.back(k)) && undoSome();
            case 8 -> {
                int n = random.nextInt(3) == 0 ? random.nextInt() : upTo(9);
                yield same("seed " + n, x.seed(n), y.seed(n));
            }
            default -> noteOne();
        };
    }

    private boolean undoSome() {
        boolean good = same("ruled 0", x.ruled(0), y.ruled(0));
        for (int i = upTo(12); good && i > 0; i--) {
            good = same("undo", x.undo(), y.undo());
        }
        return good;
    }

    private boolean noteOne() {
        int n = random.nextInt(9) == 0 ? oneIn(-1, -2, 60, 61) : upTo(6);
        int c = cellNumber();
        int p = penNumber();
        if (random.nextInt(3) > 0 && y.k.now.cell(c) && n >= 0 && n <= 60) {
            List<Model.Clause> rule = y.rules.isEmpty() ? null : y.rules.get(upTo(y.rules.size() - 1));
            p = y.k.told.after(n, rule).at(c);
        }
        return same("note " + n + " " + c + " " + p, x.note(n, c, p), y.note(n, c, p));
    }

    private boolean ask() {
        int p = penNumber();
        int q = penNumber();
        int c = cellNumber();
        int n = days(60);
        int w = what(2);
        return switch (upTo(15)) {
            case 0 -> {
                int far = days(100) - 1;
                int four = what(3);
                int which = four == 1 ? p : c;
                yield same("ahead " + which + " " + far + " " + four, x.ahead(which, far, four), y.ahead(which, far, four));
            }
            case 1 -> same("sign", x.sign(), y.sign());
            case 2 -> same("clean", x.clean(), y.clean());
            case 3 -> same("hold " + n + " " + w, x.hold(n, w), y.hold(n, w));
            case 4 -> same("wrote " + c + " " + n, x.wrote(c, n), y.wrote(c, n));
            case 5 -> same("came " + p + " " + c + " " + n + " " + w, x.came(p, c, n, w), y.came(p, c, n, w));
            case 6 -> same("change " + n + " " + w, x.change(n, w), y.change(n, w));
            case 7 -> {
                int turns = random.nextInt(9) == 0 ? oneIn(0, 5) : 1 + upTo(3);
                yield same("game " + p + " " + q + " " + turns + " " + w, x.game(p, q, turns, w), y.game(p, q, turns, w));
            }
            case 8, 9 -> {
                int few = days(20);
                yield same("rests " + p + " " + q + " " + few + " " + w, x.rests(p, q, few, w), y.rests(p, q, few, w));
            }
            case 10 -> {
                int much = random.nextInt(9) == 0 ? oneIn(-1, 9999, 10000) : upTo(40);
                yield same("pence " + much + " " + p, x.pence(much, p), y.pence(much, p));
            }
            case 11 -> same("read " + n + " " + w, x.read(n, w), y.read(n, w));
            case 12 -> same("ruled " + w, x.ruled(w), y.ruled(w));
            case 13 -> same("look " + (n - 1) + " " + w, x.look(n - 1, w), y.look(n - 1, w));
            default -> {
                int m = random.nextInt(9) == 0 ? oneIn(0, 10, 11) : 1 + upTo(3);
                int chance = random.nextInt(9) == 0 ? oneIn(-1, 0, 100, 101) : upTo(100);
                yield same("rains " + m + " " + n + " " + chance + " " + w, x.rains(m, n, chance, w), y.rains(m, n, chance, w));
            }
        };
    }

    private boolean run() {
        boolean good = random.nextInt(9) == 0 || tell(skyText()) && same("sky", x.sky(), y.sky());
        for (int i = 0; good && i < CALLS; i++) {
            good = switch (upTo(5)) {
                case 0 -> tellOne();
                case 1, 2 -> act();
                default -> ask();
            };
        }
        return good;
    }

    public static void main(String[] args) {
        long first = args.length > 0 ? Long.parseLong(args[0]) : 0;
        int runs = args.length > 1 ? Integer.parseInt(args[1]) : RUNS;
        for (long seed = first; seed < first + runs; seed++) {
            if (!new ModelTest(seed).run()) {
                System.out.println("ModelTest: run " + seed + " is wrong");
                System.exit(1);
            }
        }
        System.out.println("ModelTest: " + runs + " runs as due");
    }
}
