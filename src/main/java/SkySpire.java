import java.util.Arrays;

/** Spires that write on a sheet of cloud: see README.md for how its calls hang together. */
public final class SkySpire {
    public static final int NONE = -1;

    private static final int NO_SUCH = -2;
    private static final int NO_QUESTION = -3;
    private static final int NO_GAME = -1000;
    private static final int FAULT_FROM = -2;

    private static final int MAX_TAPE = 400;
    private static final int MAX_SIDE = 6;
    private static final int MAX_CELLS = 36;
    private static final int MAX_FADES = 60;
    private static final int MAX_PENS = 5;
    private static final int MAX_STIFF = 9;
    private static final int MAX_WINDS = 12;
    private static final int MAX_STRENGTH = 9;
    private static final int MAX_SKY_CLAUSES = 40;
    private static final int MAX_RULE_CLAUSES = 12;
    private static final int MAX_RULES = 6;
    private static final int MAX_PARTS = 60;
    private static final int MAX_DEPTH = 10;
    private static final int MAX_ACTS = 20;
    private static final int MAX_NOTES = 10;
    private static final int IMAGES = 4;
    private static final int WAYS = 4;
    private static final int LAST_DAY = 999;
    private static final int MOST_DAYS = 60;
    private static final int MOST_AHEAD = 100;
    private static final int MOST_REST_DAYS = 20;
    private static final int MOST_TURNS = 4;
    private static final int MOST_PENCE = 9999;
    private static final int MOST_RAINS = 10;
    private static final int SIGN_DAYS = 100;

    private static final int FAULT_PLACE = 0;
    private static final int FAULT_NUMBER = 1;
    private static final int FAULT_DEPTH = 2;
    private static final int FAULT_PARTS = 3;
    private static final int FAULT_CLAUSE = 4;

    // The first of these are VALUES of a RULE, by the numbers behind.
    private static final String WORDS =
        "pen row column stiff way force ink here mine mark next day sky wind write if or and not ";
    private static final int WORD_PEN = 0;
    private static final int WORD_ROW = 1;
    private static final int WORD_COLUMN = 2;
    private static final int WORD_STIFF = 3;
    private static final int WORD_WAY = 4;
    private static final int WORD_FORCE = 5;
    private static final int WORD_INK = 6;
    private static final int WORD_HERE = 7;
    private static final int WORD_MINE = 8;
    private static final int WORD_MARK = 9;
    private static final int WORD_NEXT = 10;
    private static final int WORD_DAY = 11;
    private static final int VALUE_WORDS = 12;

    // What stands in a text is told by one number: a sign by its byte, the rest above all bytes.
    private static final int FIRST_WORD = 256;
    private static final int TOKEN_PEN = 256;
    private static final int TOKEN_MARK = 265;
    private static final int TOKEN_SKY = 268;
    private static final int TOKEN_WIND = 269;
    private static final int TOKEN_WRITE = 270;
    private static final int TOKEN_IF = 271;
    private static final int TOKEN_OR = 272;
    private static final int TOKEN_AND = 273;
    private static final int TOKEN_NOT = 274;
    private static final int TOKEN_UNKNOWN = 300;
    private static final int TOKEN_LESS_OR_SAME = 301;
    private static final int TOKEN_MORE_OR_SAME = 302;
    private static final int TOKEN_END = 303;
    private static final int TOKEN_LONG_NUMBER = 304;
    private static final int FIRST_NUMBER = 1000;
    private static final int MAX_DIGITS = 5;

    // A RULE is kept as a row of orders for a stack: the order in the low bits, what it is of above them.
    private static final int ORDER_BITS = 5;
    private static final int ORDER_MASK = 31;
    private static final int PUT_NUMBER = 0;
    private static final int PUT_WORD = 1;
    private static final int ADD = 2;
    private static final int TAKE = 3;
    private static final int TIMES = 4;
    private static final int PARTS_OF = 5;
    private static final int REST_OF = 6;
    private static final int LESS = 7;
    private static final int LESS_OR_SAME = 8;
    private static final int SAME = 9;
    private static final int MORE_OR_SAME = 10;
    private static final int MORE = 11;
    private static final int BOTH = 12;
    private static final int EITHER = 13;
    private static final int NOT = 14;
    private static final int CLAUSE_ALWAYS = 15;
    private static final int CLAUSE_IF = 16;
    // A SUM takes 4 places, and each of 11 levels of TEST keeps 2 more open.
    private static final int STACK = 40;

    private final Tape tape;
    private final SkyReader skyReader;
    private final RuleReader ruleReader;
    private final Rule[] rules;
    private int ruleCount;
    private final World now;
    private final World[] images;
    private final Days days;
    private final Foresight foresight;
    private final Judge judge;
    private final Match match;

    public SkySpire() {
        tape = new Tape();
        skyReader = new SkyReader();
        ruleReader = new RuleReader();
        rules = new Rule[MAX_RULES];
        now = new World();
        images = new World[IMAGES];
        days = new Days();
        foresight = new Foresight();
        judge = new Judge();
        match = new Match();
    }

    public int feed(int a, int b, int c, int d, int e) {
        if (tape.length + 20 > MAX_TAPE) {
            return NONE;
        }
        tape.append(a);
        tape.append(b);
        tape.append(c);
        tape.append(d);
        tape.append(e);
        return tape.length;
    }

    public int end(int n) {
        if (n < 0 || n > tape.length) {
            return NONE;
        }
        tape.length = n;
        return n;
    }

    public int sky() {
        int fault = skyReader.faultOf(tape);
        tape.length = 0;
        if (fault != 0) {
            return FAULT_FROM - fault;
        }
        now.begin(skyReader.told);
        return now.told.pens;
    }

    public int rule() {
        if (ruleCount >= MAX_RULES) {
            return NONE;
        }
        int fault = ruleReader.faultOf(tape);
        tape.length = 0;
        if (fault != 0) {
            return FAULT_FROM - fault;
        }
        rules[ruleCount] = new Rule(ruleReader.orders());
        ruleCount++;
        return ruleCount - 1;
    }

    public int force(int rule) {
        if (rule < NONE || rule >= ruleCount) {
            return NO_SUCH;
        }
        int was = now.inForce;
        now.inForce = rule;
        return was;
    }

    public int pen(int pen, int what) {
        if (!now.told.hasPen(pen)) {
            return NONE;
        }
        switch (what) {
            case 0:
                return now.scene.penCell[pen];
            case 1:
                return now.scene.penStiff[pen];
            case 2:
                return now.scene.isStayed(pen) ? 1 : 0;
            case 3:
                return now.scene.strokesOf(pen);
            default:
                return NONE;
        }
    }

    public int cell(int cell, int what) {
        if (!now.told.hasCell(cell)) {
            return NO_SUCH;
        }
        switch (what) {
            case 0:
                return now.scene.owner[cell];
            case 1:
                return now.scene.owner[cell] == NONE ? NONE : now.scene.since[cell];
            case 2:
                return now.told.mark[cell];
            default:
                return NO_SUCH;
        }
    }

    public int day() {
        if (!now.told.isThere() || now.scene.day >= LAST_DAY) {
            return NONE;
        }
        now.remember();
        return days.one(now.told, now.scene, ruleInForce());
    }

    public int stay(int pen) {
        if (!now.told.hasPen(pen)) {
            return NONE;
        }
        now.remember();
        now.scene.stayed = now.scene.stayed ^ (1 << pen);
        return now.scene.stayed;
    }

    public int set(int pen, int cell) {
        if (!now.told.hasPen(pen) || !now.told.hasCell(cell) || now.scene.penCell[pen] == cell) {
            return NONE;
        }
        now.remember();
        int was = now.scene.penCell[pen];
        now.scene.penCell[pen] = cell;
        return was;
    }

    public int bend(int pen, int stiff) {
        if (!now.told.hasPen(pen) || !within(stiff, 0, MAX_STIFF) || now.scene.penStiff[pen] == stiff) {
            return NONE;
        }
        now.remember();
        int was = now.scene.penStiff[pen];
        now.scene.penStiff[pen] = stiff;
        return was;
    }

    public int blot(int cell) {
        if (!now.told.hasCell(cell) || now.scene.owner[cell] == NONE) {
            return NONE;
        }
        now.remember();
        int was = now.scene.owner[cell];
        now.scene.owner[cell] = NONE;
        return was;
    }

    public int undo() {
        if (now.acts == 0) {
            return NO_SUCH;
        }
        now.recall();
        return now.acts;
    }

    public int ahead(int number, int n, int what) {
        if (!now.told.isThere() || !within(n, 0, MOST_AHEAD) || !within(what, 0, 3)) {
            return NO_SUCH;
        }
        if (what == 0 && !now.told.hasCell(number) || what == 1 && !now.told.hasPen(number)) {
            return NO_SUCH;
        }
        Scene then = foresight.after(now, ruleInForce(), n);
        if (what == 0) {
            return then.owner[number];
        }
        if (what == 1) {
            return then.penCell[number];
        }
        return what == 2 ? then.strokes() : then.like(now.told);
    }

    public int sign() {
        return now.told.isThere() ? foresight.firstMark(now, ruleInForce(), false) : NONE;
    }

    public int clean() {
        return now.told.isThere() ? foresight.firstMark(now, ruleInForce(), true) : NONE;
    }

    public int hold(int n, int what) {
        if (!now.told.isThere() || !within(n, 1, MOST_DAYS) || !within(what, 0, 1)) {
            return NONE;
        }
        return foresight.bestStayed(now, ruleInForce(), n, what);
    }

    public int wrote(int cell, int n) {
        if (!now.told.hasCell(cell) || !within(n, 1, MOST_DAYS)) {
            return NONE;
        }
        return foresight.writersIn(now, ruleInForce(), cell, n);
    }

    public int came(int pen, int cell, int n, int what) {
        if (!now.told.hasPen(pen) || !now.told.hasCell(cell) || !within(n, 1, MOST_DAYS) || !within(what, 0, 1)) {
            return NONE;
        }
        return foresight.beginnings(now, pen, cell, n, what);
    }

    public int change(int n, int what) {
        if (!now.told.isThere() || !within(n, 1, MOST_DAYS) || !within(what, 0, 2)) {
            return NO_SUCH;
        }
        return foresight.bestChange(now, ruleInForce(), n, what);
    }

    public int game(int one, int other, int n, int what) {
        if (!areTwoPens(one, other) || !within(n, 1, MOST_TURNS) || !within(what, 0, 1)) {
            return NO_GAME;
        }
        return match.play(now, one, other, n, what);
    }

    public int rests(int one, int other, int n, int what) {
        if (!areTwoPens(one, other) || !within(n, 1, MOST_REST_DAYS) || !within(what, 0, 2)) {
            return NONE;
        }
        return foresight.restsOfTwo(now, ruleInForce(), one, other, n, what);
    }

    public int pence(int much, int pen) {
        if (!now.told.hasPen(pen) || !within(much, 0, MOST_PENCE)) {
            return NONE;
        }
        return now.penceOf(much, pen);
    }

    public int read(int n, int what) {
        if (!now.told.isThere() || !within(n, 1, MOST_DAYS) || !within(what, 0, 1)) {
            return NONE;
        }
        return judge.bestToRead(now, rules, ruleCount, n, what);
    }

    public int note(int n, int cell, int pen) {
        if (n == NONE) {
            now.notes = 0;
            return 0;
        }
        boolean hasPen = pen == NONE || now.told.hasPen(pen);
        if (!within(n, 0, MOST_DAYS) || !now.told.hasCell(cell) || !hasPen || now.notes >= MAX_NOTES) {
            return NO_SUCH;
        }
        now.addNote(n, cell, pen);
        return now.notes;
    }

    public int ruled(int what) {
        if (!now.told.isThere() || !within(what, 0, 1)) {
            return NO_QUESTION;
        }
        return judge.agreeing(now, rules, ruleCount, what);
    }

    public int look(int n, int what) {
        if (!now.told.isThere() || !within(n, 0, MOST_DAYS) || !within(what, 0, 1)) {
            return NONE;
        }
        return judge.bestToLookAt(now, rules, ruleCount, n, what);
    }

    public int seed(int x) {
        if (x < 0) {
            return NONE;
        }
        int was = now.x;
        now.x = x;
        return was;
    }

    public int rains(int m, int n, int p, int what) {
        boolean counted = within(m, 1, MOST_RAINS) && within(n, 1, MOST_DAYS) && within(p, 0, 100);
        if (!now.told.isThere() || !counted || !within(what, 0, 1)) {
            return NONE;
        }
        return foresight.summers(now, ruleInForce(), m, n, p, what);
    }

    public int count(int what) {
        switch (what) {
            case 0:
                return now.told.side;
            case 1:
                return now.told.fades;
            case 2:
                return now.told.pens;
            case 3:
                return now.told.winds;
            case 4:
                return ruleCount;
            case 5:
                return now.inForce;
            case 6:
                return now.scene.day;
            case 7:
                return now.scene.strokes();
            case 8:
                return now.scene.like(now.told);
            case 9:
                return now.scene.claps;
            case 10:
                return now.scene.stayed;
            case 11:
                return now.notes;
            case 12:
                return now.acts;
            case 13:
                return now.x;
            case 14:
                return tape.length;
            default:
                return NONE;
        }
    }

    public int image(int k) {
        if (!within(k, 0, IMAGES - 1)) {
            return NONE;
        }
        if (images[k] == null) {
            images[k] = new World();
        }
        images[k].copyFrom(now);
        return now.scene.day;
    }

    public int back(int k) {
        if (!within(k, 0, IMAGES - 1) || images[k] == null) {
            return NONE;
        }
        now.copyFrom(images[k]);
        return now.scene.day;
    }

    private static boolean within(int number, int least, int most) {
        return number >= least && number <= most;
    }

    private boolean areTwoPens(int one, int other) {
        return one != other && now.told.hasPen(one) && now.told.hasPen(other);
    }

    private Rule ruleInForce() {
        return within(now.inForce, 0, MAX_RULES - 1) ? rules[now.inForce] : null;
    }

    /** The bytes fed; cut into tokens, along which a reader goes. */
    private static final class Tape {
        final int[] bytes = new int[MAX_TAPE];
        int length;
        // One more than there are bytes, for the end.
        final int[] tokens = new int[MAX_TAPE + 1];
        final int[] places = new int[MAX_TAPE + 1];
        int at;
        int fault;

        void append(int number) {
            for (int shift = 24; shift >= 0 && length < MAX_TAPE; shift -= 8) {
                bytes[length] = (number >>> shift) & 255;
                length++;
            }
        }

        /** Ahead of reading; the reader stands at the first token then. */
        void cut() {
            int many = 0;
            int place = 0;
            for (int i = 0; i < MAX_TAPE && place < length; i++) {
                int behind = endOfToken(place);
                if (byteAt(place) != ' ' && many < MAX_TAPE) {
                    tokens[many] = tokenOf(place, behind);
                    places[many] = place;
                    many++;
                }
                place = behind;
            }
            tokens[many] = TOKEN_END;
            places[many] = length;
            at = 0;
            fault = 0;
        }

        private int byteAt(int place) {
            return place >= 0 && place < length && place < MAX_TAPE ? bytes[place] : NONE;
        }

        private static boolean isDigit(int sign) {
            return sign >= '0' && sign <= '9';
        }

        private static boolean isLetter(int sign) {
            return sign >= 'a' && sign <= 'z';
        }

        /** The place behind the token that begins at one. */
        private int endOfToken(int place) {
            int sign = byteAt(place);
            int behind = place + 1;
            if (sign == '<' || sign == '>') {
                return byteAt(behind) == '=' ? behind + 1 : behind;
            }
            if (isDigit(sign)) {
                while (behind < length && isDigit(byteAt(behind))) {
                    behind++;
                }
            } else if (isLetter(sign)) {
                while (behind < length && isLetter(byteAt(behind))) {
                    behind++;
                }
            }
            return behind;
        }

        private int tokenOf(int place, int behind) {
            int sign = byteAt(place);
            if (isDigit(sign)) {
                return numberToken(place, behind);
            }
            if (isLetter(sign)) {
                return wordToken(place, behind);
            }
            if (behind - place == 2) {
                return sign == '<' ? TOKEN_LESS_OR_SAME : TOKEN_MORE_OR_SAME;
            }
            return sign;
        }

        private int numberToken(int place, int behind) {
            if (behind - place > MAX_DIGITS) {
                return TOKEN_LONG_NUMBER;
            }
            int value = 0;
            for (int i = place; i < behind; i++) {
                value = value * 10 + byteAt(i) - '0';
            }
            return FIRST_NUMBER + value;
        }

        private int wordToken(int place, int behind) {
            int word = 0;
            int from = 0;
            for (int to = 0; to < WORDS.length(); to++) {
                if (WORDS.charAt(to) == ' ') {
                    if (to - from == behind - place && isWord(place, from, to)) {
                        return FIRST_WORD + word;
                    }
                    word++;
                    from = to + 1;
                }
            }
            return TOKEN_UNKNOWN;
        }

        private boolean isWord(int place, int from, int to) {
            for (int i = from; i < to && i < WORDS.length(); i++) {
                if (byteAt(place + i - from) != WORDS.charAt(i)) {
                    return false;
                }
            }
            return true;
        }

        int token() {
            return at >= 0 && at <= MAX_TAPE ? tokens[at] : TOKEN_END;
        }

        void advance() {
            if (at >= 0 && at < MAX_TAPE && tokens[at] != TOKEN_END) {
                at++;
            }
        }

        boolean takes(int token) {
            if (token() != token) {
                return false;
            }
            advance();
            return true;
        }

        /** A FAULT where the reader stands; false, so that a reader can return it. */
        boolean fail(int kind) {
            if (fault == 0 && at >= 0 && at <= MAX_TAPE) {
                fault = 1 + 8 * places[at] + kind;
            }
            return false;
        }

        /** NONE, and a FAULT, if no NUMBER from least to most stands next. */
        int takeNumber(int least, int most) {
            int token = token();
            if (token != TOKEN_LONG_NUMBER && token < FIRST_NUMBER) {
                fail(FAULT_PLACE);
                return NONE;
            }
            int value = token - FIRST_NUMBER;
            if (token == TOKEN_LONG_NUMBER || value < least || value > most) {
                fail(FAULT_NUMBER);
                return NONE;
            }
            at++;
            return value;
        }
    }

    /** A SKY as its text told it: what no DAY changes, and how the PENS began. */
    private static final class Told {
        int side;
        int cells;
        int fades;
        int pens;
        int winds;
        final int[] penCell = new int[MAX_PENS];
        final int[] penStiff = new int[MAX_PENS];
        final int[] way = new int[MAX_WINDS];
        final int[] strength = new int[MAX_WINDS];
        final int[] mark = new int[MAX_CELLS];

        void clear() {
            side = 0;
            cells = 0;
            fades = 0;
            pens = 0;
            winds = 0;
            Arrays.fill(mark, 0);
        }

        void copyFrom(Told other) {
            side = other.side;
            cells = other.cells;
            fades = other.fades;
            pens = other.pens;
            winds = other.winds;
            System.arraycopy(other.penCell, 0, penCell, 0, MAX_PENS);
            System.arraycopy(other.penStiff, 0, penStiff, 0, MAX_PENS);
            System.arraycopy(other.way, 0, way, 0, MAX_WINDS);
            System.arraycopy(other.strength, 0, strength, 0, MAX_WINDS);
            System.arraycopy(other.mark, 0, mark, 0, MAX_CELLS);
        }

        boolean isThere() {
            return side > 0;
        }

        boolean hasCell(int cell) {
            return cell >= 0 && cell < cells;
        }

        boolean hasPen(int pen) {
            return pen >= 0 && pen < pens;
        }

        int allPens() {
            return (1 << pens) - 1;
        }

        int wayOn(int day) {
            return winds == 0 ? 0 : way[day % winds];
        }

        int strengthOn(int day) {
            return winds == 0 ? 0 : strength[day % winds];
        }

        void exchangeWinds(int one, int other) {
            int keptWay = way[one];
            way[one] = way[other];
            way[other] = keptWay;
            int keptStrength = strength[one];
            strength[one] = strength[other];
            strength[other] = keptStrength;
        }

        int rowOf(int cell) {
            return side == 0 ? 0 : cell / side;
        }

        int columnOf(int cell) {
            return side == 0 ? 0 : cell % side;
        }

        /** The CELL one on by a WAY; the same one at the edge. */
        int beside(int cell, int towards) {
            switch (towards) {
                case 0:
                    return rowOf(cell) > 0 ? cell - side : cell;
                case 1:
                    return columnOf(cell) < side - 1 ? cell + 1 : cell;
                case 2:
                    return rowOf(cell) < side - 1 ? cell + side : cell;
                default:
                    return columnOf(cell) > 0 ? cell - 1 : cell;
            }
        }
    }

    /** What DAYS and other ACTS change. */
    private static final class Scene {
        final int[] penCell = new int[MAX_PENS];
        final int[] penStiff = new int[MAX_PENS];
        final int[] owner = new int[MAX_CELLS];
        final int[] since = new int[MAX_CELLS];
        int stayed;
        int day;
        int claps;

        Scene() {
            Arrays.fill(owner, NONE);
        }

        void begin(Told told) {
            System.arraycopy(told.penCell, 0, penCell, 0, MAX_PENS);
            System.arraycopy(told.penStiff, 0, penStiff, 0, MAX_PENS);
            Arrays.fill(owner, NONE);
            stayed = 0;
            day = 0;
            claps = 0;
        }

        void copyFrom(Scene other) {
            System.arraycopy(other.penCell, 0, penCell, 0, MAX_PENS);
            System.arraycopy(other.penStiff, 0, penStiff, 0, MAX_PENS);
            System.arraycopy(other.owner, 0, owner, 0, MAX_CELLS);
            System.arraycopy(other.since, 0, since, 0, MAX_CELLS);
            stayed = other.stayed;
            day = other.day;
            claps = other.claps;
        }

        boolean isStayed(int pen) {
            return (stayed >> pen & 1) == 1;
        }

        int strokes() {
            int strokes = 0;
            for (int cell = 0; cell < MAX_CELLS; cell++) {
                if (owner[cell] != NONE) {
                    strokes++;
                }
            }
            return strokes;
        }

        int strokesOf(int pen) {
            int strokes = 0;
            for (int cell = 0; cell < MAX_CELLS; cell++) {
                if (owner[cell] == pen) {
                    strokes++;
                }
            }
            return strokes;
        }

        int like(Told told) {
            int like = 0;
            for (int cell = 0; cell < told.cells; cell++) {
                if ((owner[cell] != NONE) == (told.mark[cell] == 1)) {
                    like++;
                }
            }
            return like;
        }

        boolean fillsMark(Told told) {
            for (int cell = 0; cell < told.cells; cell++) {
                if (told.mark[cell] == 1 && owner[cell] == NONE) {
                    return false;
                }
            }
            return true;
        }
    }

    /** All that an IMAGE keeps. */
    private static final class World {
        final Told told = new Told();
        final Scene scene = new Scene();
        final Scene[] past = new Scene[MAX_ACTS];
        int acts;
        final int[] noteDay = new int[MAX_NOTES];
        final int[] noteCell = new int[MAX_NOTES];
        final int[] notePen = new int[MAX_NOTES];
        int notes;
        int x;
        int inForce = NONE;

        World() {
            for (int i = 0; i < MAX_ACTS; i++) {
                past[i] = new Scene();
            }
        }

        void begin(Told other) {
            told.copyFrom(other);
            scene.begin(told);
            acts = 0;
            notes = 0;
        }

        void copyFrom(World other) {
            told.copyFrom(other.told);
            scene.copyFrom(other.scene);
            acts = other.acts;
            for (int i = 0; i < acts && i < MAX_ACTS; i++) {
                past[i].copyFrom(other.past[i]);
            }
            System.arraycopy(other.noteDay, 0, noteDay, 0, MAX_NOTES);
            System.arraycopy(other.noteCell, 0, noteCell, 0, MAX_NOTES);
            System.arraycopy(other.notePen, 0, notePen, 0, MAX_NOTES);
            notes = other.notes;
            x = other.x;
            inForce = other.inForce;
        }

        /** Called ahead of each ACT. */
        void remember() {
            if (acts >= MAX_ACTS) {
                dropOldest();
            }
            past[acts].copyFrom(scene);
            acts++;
        }

        /** The oldest row is put last, so that none has to be made anew. */
        private void dropOldest() {
            Scene oldest = past[0];
            for (int i = 1; i < MAX_ACTS; i++) {
                past[i - 1] = past[i];
            }
            past[MAX_ACTS - 1] = oldest;
            acts = MAX_ACTS - 1;
        }

        void recall() {
            if (acts > 0) {
                acts--;
                scene.copyFrom(past[acts]);
            }
        }

        void addNote(int day, int cell, int pen) {
            if (notes < MAX_NOTES) {
                noteDay[notes] = day;
                noteCell[notes] = cell;
                notePen[notes] = pen;
                notes++;
            }
        }

        int penceOf(int much, int pen) {
            int all = scene.strokes();
            if (all == 0) {
                return 0;
            }
            int part = much * scene.strokesOf(pen);
            int left = much;
            int ahead = 0;
            for (int other = 0; other < told.pens; other++) {
                int otherPart = much * scene.strokesOf(other);
                left -= otherPart / all;
                int lostMore = otherPart % all - part % all;
                if (lostMore > 0 || lostMore == 0 && other < pen) {
                    ahead++;
                }
            }
            return part / all + (ahead < left ? 1 : 0);
        }
    }

    /** Reads a SKY off the TAPE. */
    private static final class SkyReader {
        final Told told = new Told();

        /** 0: none. */
        int faultOf(Tape tape) {
            tape.cut();
            told.clear();
            for (int clause = 0; clause <= MAX_SKY_CLAUSES; clause++) {
                if (!takeClause(tape, clause) || tape.token() == TOKEN_END) {
                    return tape.fault;
                }
                if (!tape.takes(';')) {
                    tape.fail(FAULT_PLACE);
                    return tape.fault;
                }
            }
            return tape.fault;
        }

        private boolean takeClause(Tape tape, int clause) {
            int word = tape.token();
            if (word != TOKEN_SKY && word != TOKEN_PEN && word != TOKEN_WIND && word != TOKEN_MARK) {
                return tape.fail(FAULT_PLACE);
            }
            if (!canStand(word, clause)) {
                return tape.fail(FAULT_CLAUSE);
            }
            tape.advance();
            switch (word) {
                case TOKEN_SKY:
                    return takeSheet(tape);
                case TOKEN_PEN:
                    return takePen(tape);
                case TOKEN_WIND:
                    return takeWind(tape);
                default:
                    return takeMark(tape);
            }
        }

        private boolean canStand(int word, int clause) {
            boolean first = clause == 0;
            if (clause >= MAX_SKY_CLAUSES || first != (word == TOKEN_SKY)) {
                return false;
            }
            if (word == TOKEN_PEN) {
                return told.pens < MAX_PENS;
            }
            return word != TOKEN_WIND || told.winds < MAX_WINDS;
        }

        private boolean takeSheet(Tape tape) {
            int side = tape.takeNumber(2, MAX_SIDE);
            if (side == NONE) {
                return false;
            }
            int fades = tape.takeNumber(1, MAX_FADES);
            if (fades == NONE) {
                return false;
            }
            told.side = side;
            told.cells = side * side;
            told.fades = fades;
            return true;
        }

        private boolean takePen(Tape tape) {
            int cell = tape.takeNumber(0, told.cells - 1);
            if (cell == NONE) {
                return false;
            }
            int stiff = tape.takeNumber(0, MAX_STIFF);
            if (stiff == NONE || told.pens >= MAX_PENS) {
                return false;
            }
            told.penCell[told.pens] = cell;
            told.penStiff[told.pens] = stiff;
            told.pens++;
            return true;
        }

        private boolean takeWind(Tape tape) {
            int way = tape.takeNumber(0, WAYS - 1);
            if (way == NONE) {
                return false;
            }
            int strength = tape.takeNumber(0, MAX_STRENGTH);
            if (strength == NONE || told.winds >= MAX_WINDS) {
                return false;
            }
            told.way[told.winds] = way;
            told.strength[told.winds] = strength;
            told.winds++;
            return true;
        }

        private boolean takeMark(Tape tape) {
            int cell = tape.takeNumber(0, told.cells - 1);
            if (cell == NONE) {
                return false;
            }
            told.mark[cell] = 1;
            return true;
        }
    }

    /** Reads a RULE off the TAPE. */
    private static final class RuleReader {
        // Each order has a token of its own in the text, so these are enough.
        final int[] orders = new int[MAX_TAPE];
        int length;
        int parts;

        /** 0: none. */
        int faultOf(Tape tape) {
            tape.cut();
            length = 0;
            parts = 0;
            for (int clause = 0; clause <= MAX_RULE_CLAUSES; clause++) {
                if (!takeClause(tape, clause) || tape.token() == TOKEN_END) {
                    return tape.fault;
                }
                if (!tape.takes(';')) {
                    tape.fail(FAULT_PLACE);
                    return tape.fault;
                }
            }
            return tape.fault;
        }

        int[] orders() {
            return Arrays.copyOf(orders, length);
        }

        private void addOrder(int order, int of) {
            if (length < MAX_TAPE) {
                orders[length] = order | of << ORDER_BITS;
                length++;
            }
        }

        private boolean takeClause(Tape tape, int clause) {
            if (tape.token() != TOKEN_WRITE) {
                return tape.fail(FAULT_PLACE);
            }
            if (clause >= MAX_RULE_CLAUSES) {
                return tape.fail(FAULT_CLAUSE);
            }
            tape.advance();
            if (!takeSum(tape)) {
                return false;
            }
            boolean tested = tape.takes(TOKEN_IF);
            if (tested && !takeTest(tape, 0)) {
                return false;
            }
            addOrder(tested ? CLAUSE_IF : CLAUSE_ALWAYS, 0);
            return true;
        }

        /** What binds closer is ordered first: an and as soon as its FACT is read, an or behind all ands. */
        private boolean takeTest(Tape tape, int depth) {
            boolean both = false;
            boolean either = false;
            for (int i = 0; i < MAX_TAPE; i++) {
                if (!takeFact(tape, depth)) {
                    return false;
                }
                if (both) {
                    addOrder(BOTH, 0);
                }
                both = tape.takes(TOKEN_AND);
                if (!both) {
                    if (either) {
                        addOrder(EITHER, 0);
                    }
                    either = tape.takes(TOKEN_OR);
                    if (!either) {
                        return true;
                    }
                }
            }
            return true;
        }

        private boolean takeFact(Tape tape, int depth) {
            boolean not = tape.token() == TOKEN_NOT;
            if (not || tape.token() == '[') {
                if (depth >= MAX_DEPTH) {
                    return tape.fail(FAULT_DEPTH);
                }
                tape.advance();
                if (not) {
                    boolean taken = takeFact(tape, depth + 1);
                    addOrder(NOT, 0);
                    return taken;
                }
                return takeTest(tape, depth + 1) && (tape.takes(']') || tape.fail(FAULT_PLACE));
            }
            if (!takeSum(tape)) {
                return false;
            }
            int order = comparingOrder(tape.token());
            if (order == NONE) {
                return tape.fail(FAULT_PLACE);
            }
            parts++;
            if (parts > MAX_PARTS) {
                return tape.fail(FAULT_PARTS);
            }
            tape.advance();
            boolean taken = takeSum(tape);
            addOrder(order, 0);
            return taken;
        }

        private static int comparingOrder(int token) {
            switch (token) {
                case '<':
                    return LESS;
                case TOKEN_LESS_OR_SAME:
                    return LESS_OR_SAME;
                case '=':
                    return SAME;
                case TOKEN_MORE_OR_SAME:
                    return MORE_OR_SAME;
                case '>':
                    return MORE;
                default:
                    return NONE;
            }
        }

        /** As in a TEST: a sign of a TERM is ordered as soon as its VALUE is read, + and - behind the whole TERM. */
        private boolean takeSum(Tape tape) {
            int multiplying = NONE;
            int adding = NONE;
            for (int i = 0; i < MAX_TAPE; i++) {
                if (!takeValue(tape)) {
                    return false;
                }
                if (multiplying != NONE) {
                    addOrder(multiplying, 0);
                }
                multiplying = multiplyingOrder(tape.token());
                if (multiplying == NONE) {
                    if (adding != NONE) {
                        addOrder(adding, 0);
                    }
                    adding = addingOrder(tape.token());
                    if (adding == NONE) {
                        return true;
                    }
                }
                tape.advance();
            }
            return true;
        }

        private static int multiplyingOrder(int token) {
            switch (token) {
                case '*':
                    return TIMES;
                case '/':
                    return PARTS_OF;
                case '%':
                    return REST_OF;
                default:
                    return NONE;
            }
        }

        private static int addingOrder(int token) {
            return token == '+' ? ADD : token == '-' ? TAKE : NONE;
        }

        private boolean takeValue(Tape tape) {
            int token = tape.token();
            int word = token - FIRST_WORD;
            boolean isWord = word >= 0 && word < VALUE_WORDS;
            if (token == TOKEN_LONG_NUMBER) {
                return tape.fail(FAULT_NUMBER);
            }
            if (!isWord && token < FIRST_NUMBER) {
                return tape.fail(FAULT_PLACE);
            }
            parts++;
            if (parts > MAX_PARTS) {
                return tape.fail(FAULT_PARTS);
            }
            tape.advance();
            addOrder(isWord ? PUT_WORD : PUT_NUMBER, isWord ? word : token - FIRST_NUMBER);
            return true;
        }
    }

    /** A RULE as orders for a stack: no tree has to be kept, and none walked. */
    private static final class Rule {
        final int[] orders;

        Rule(int[] orders) {
            this.orders = orders;
        }

        /** The SUM of the first CLAUSE that holds, 0 without. */
        long sum(int[] words, long[] stack) {
            int top = 0;
            for (int i = 0; i < orders.length; i++) {
                int order = orders[i] & ORDER_MASK;
                int of = orders[i] >> ORDER_BITS;
                if (order == PUT_NUMBER || order == PUT_WORD) {
                    if (top >= stack.length) {
                        return 0;
                    }
                    stack[top] = order == PUT_NUMBER ? of : wordOf(words, of);
                    top++;
                } else if (order == CLAUSE_ALWAYS) {
                    return top < 1 ? 0 : stack[top - 1];
                } else if (order == NOT) {
                    if (top < 1) {
                        return 0;
                    }
                    stack[top - 1] = 1 - stack[top - 1];
                } else {
                    if (top < 2) {
                        return 0;
                    }
                    if (order == CLAUSE_IF) {
                        if (stack[top - 1] != 0) {
                            return stack[top - 2];
                        }
                        top -= 2;
                    } else {
                        stack[top - 2] = joined(order, stack[top - 2], stack[top - 1]);
                        top--;
                    }
                }
            }
            return 0;
        }

        private static long wordOf(int[] words, int word) {
            return word >= 0 && word < words.length ? words[word] : 0;
        }

        private static long joined(int order, long one, long other) {
            switch (order) {
                case ADD:
                    return one + other;
                case TAKE:
                    return one - other;
                case TIMES:
                    return one * other;
                case PARTS_OF:
                    return other == 0 ? 0 : one / other;
                case REST_OF:
                    return other == 0 ? 0 : one % other;
                case BOTH:
                    return one & other;
                case EITHER:
                    return one | other;
                case LESS:
                    return one < other ? 1 : 0;
                case LESS_OR_SAME:
                    return one <= other ? 1 : 0;
                case SAME:
                    return one == other ? 1 : 0;
                case MORE_OR_SAME:
                    return one >= other ? 1 : 0;
                default:
                    return one > other ? 1 : 0;
            }
        }
    }

    /** Lets DAYS pass over a Scene. */
    private static final class Days {
        final int[] words = new int[VALUE_WORDS];
        final int[] inks = new int[MAX_PENS];
        final long[] stack = new long[STACK];

        void pass(Told told, Scene scene, Rule rule, int n) {
            for (int i = 0; i < n; i++) {
                one(told, scene, rule);
            }
        }

        /** Who WRITES on it, as bits; a null rule: none is IN FORCE. */
        int one(Told told, Scene scene, Rule rule) {
            int writers = rule == null ? ~scene.stayed & told.allPens() : writersBy(told, scene, rule);
            movePens(told, scene);
            leaveStrokes(told, scene, writers);
            scene.day++;
            fadeStrokes(told, scene);
            return writers;
        }

        private int writersBy(Told told, Scene scene, Rule rule) {
            tellDay(told, scene);
            int writers = 0;
            for (int pen = 0; pen < told.pens; pen++) {
                if (!scene.isStayed(pen)) {
                    tellPen(told, scene, pen);
                    if (rule.sum(words, stack) > 0) {
                        writers |= 1 << pen;
                    }
                }
            }
            return writers;
        }

        private void tellDay(Told told, Scene scene) {
            words[WORD_WAY] = told.wayOn(scene.day);
            words[WORD_FORCE] = told.strengthOn(scene.day);
            words[WORD_NEXT] = told.strengthOn(scene.day + 1);
            words[WORD_DAY] = scene.day;
            Arrays.fill(inks, 0);
            for (int cell = 0; cell < told.cells; cell++) {
                int owner = scene.owner[cell];
                if (owner >= 0 && owner < MAX_PENS) {
                    inks[owner]++;
                }
            }
        }

        private void tellPen(Told told, Scene scene, int pen) {
            int cell = scene.penCell[pen];
            int owner = scene.owner[cell];
            words[WORD_PEN] = pen;
            words[WORD_ROW] = told.rowOf(cell);
            words[WORD_COLUMN] = told.columnOf(cell);
            words[WORD_STIFF] = scene.penStiff[pen];
            words[WORD_INK] = inks[pen];
            words[WORD_HERE] = owner == NONE ? 0 : 1;
            words[WORD_MINE] = owner == pen ? 1 : 0;
            words[WORD_MARK] = told.mark[cell];
        }

        private void movePens(Told told, Scene scene) {
            int way = told.wayOn(scene.day);
            int strength = told.strengthOn(scene.day);
            for (int pen = 0; pen < told.pens; pen++) {
                if (!scene.isStayed(pen) && scene.penStiff[pen] <= strength) {
                    scene.penCell[pen] = told.beside(scene.penCell[pen], way);
                }
            }
        }

        private void leaveStrokes(Told told, Scene scene, int writers) {
            for (int pen = 0; pen < told.pens; pen++) {
                if ((writers >> pen & 1) == 1) {
                    int cell = scene.penCell[pen];
                    int together = writersAt(told, scene, writers, cell);
                    if (together == 1 << pen) {
                        scene.owner[cell] = pen;
                        scene.since[cell] = scene.day;
                    } else {
                        scene.owner[cell] = NONE;
                        // One CLAP a CELL: the least of those that meet tells it.
                        if ((together & (1 << pen) - 1) == 0) {
                            scene.claps++;
                        }
                    }
                }
            }
        }

        private static int writersAt(Told told, Scene scene, int writers, int cell) {
            int there = 0;
            for (int pen = 0; pen < told.pens; pen++) {
                if ((writers >> pen & 1) == 1 && scene.penCell[pen] == cell) {
                    there |= 1 << pen;
                }
            }
            return there;
        }

        private void fadeStrokes(Told told, Scene scene) {
            int oldest = scene.day - told.fades;
            for (int cell = 0; cell < told.cells; cell++) {
                if (scene.since[cell] < oldest) {
                    scene.owner[cell] = NONE;
                }
            }
        }
    }

    /** What would be, from now on: all on a Scene of its own, so that nothing changes by what is asked. */
    private static final class Foresight {
        final Days days = new Days();
        final Scene trial = new Scene();
        final Told changed = new Told();
        final int[] ofOne = new int[16];
        final int[] ofOther = new int[16];

        Scene after(World world, Rule rule, int n) {
            trial.copyFrom(world.scene);
            days.pass(world.told, trial, rule, n);
            return trial;
        }

        int firstMark(World world, Rule rule, boolean alone) {
            trial.copyFrom(world.scene);
            for (int i = 0; i < SIGN_DAYS; i++) {
                boolean there = alone ? trial.like(world.told) == world.told.cells : trial.fillsMark(world.told);
                if (there) {
                    return trial.day;
                }
                days.one(world.told, trial, rule);
            }
            return NO_SUCH;
        }

        int bestStayed(World world, Rule rule, int n, int what) {
            int best = 0;
            int most = -1;
            for (int bits = 0; bits <= world.told.allPens(); bits++) {
                trial.copyFrom(world.scene);
                trial.stayed = bits;
                days.pass(world.told, trial, rule, n);
                int like = trial.like(world.told);
                if (like > most || like == most && Integer.bitCount(bits) < Integer.bitCount(best)) {
                    best = bits;
                    most = like;
                }
            }
            return what == 0 ? best : most;
        }

        int writersIn(World world, Rule rule, int cell, int n) {
            int bits = 0;
            for (int pen = 0; pen < world.told.pens; pen++) {
                trial.copyFrom(world.scene);
                trial.stayed |= world.told.allPens() & ~(1 << pen);
                for (int i = 0; i < n && (bits >> pen & 1) == 0; i++) {
                    int today = trial.day;
                    days.one(world.told, trial, rule);
                    // A STROKE of an earlier DAY was not left in these.
                    if (trial.owner[cell] == pen && trial.since[cell] == today) {
                        bits |= 1 << pen;
                    }
                }
            }
            return bits;
        }

        int beginnings(World world, int pen, int cell, int n, int what) {
            int many = 0;
            int least = NO_SUCH;
            for (int from = 0; from < world.told.cells; from++) {
                trial.copyFrom(world.scene);
                trial.penCell[pen] = from;
                // Where PENS go does not hang on what they write, so no RULE has to be asked.
                days.pass(world.told, trial, null, n);
                if (trial.penCell[pen] == cell) {
                    many++;
                    least = least == NO_SUCH ? from : least;
                }
            }
            return what == 0 ? many : least;
        }

        int bestChange(World world, Rule rule, int n, int what) {
            int most = after(world, rule, n).like(world.told);
            int bestOne = NONE;
            int bestOther = NONE;
            changed.copyFrom(world.told);
            for (int one = 0; one < changed.winds; one++) {
                for (int other = one + 1; other < changed.winds; other++) {
                    changed.exchangeWinds(one, other);
                    trial.copyFrom(world.scene);
                    days.pass(changed, trial, rule, n);
                    changed.exchangeWinds(one, other);
                    int like = trial.like(changed);
                    if (like > most) {
                        most = like;
                        bestOne = one;
                        bestOther = other;
                    }
                }
            }
            return what == 0 ? most : what == 1 ? bestOne : bestOther;
        }

        int restsOfTwo(World world, Rule rule, int one, int other, int n, int what) {
            for (int two = 0; two < 16; two++) {
                trial.copyFrom(world.scene);
                trial.penStiff[one] = two / 4 * 3;
                trial.penStiff[other] = two % 4 * 3;
                days.pass(world.told, trial, rule, n);
                ofOne[two] = trial.strokesOf(one);
                ofOther[two] = trial.strokesOf(other);
            }
            int many = 0;
            int first = NONE;
            for (int two = 15; two >= 0; two--) {
                if (isRest(two)) {
                    many++;
                    first = two;
                }
            }
            if (what == 0) {
                return many;
            }
            if (first == NONE) {
                return NO_SUCH;
            }
            return what == 1 ? first / 4 * 3 : first % 4 * 3;
        }

        private boolean isRest(int two) {
            for (int choice = 0; choice < 4; choice++) {
                if (ofOne[choice * 4 + two % 4] > ofOne[two] || ofOther[two / 4 * 4 + choice] > ofOther[two]) {
                    return false;
                }
            }
            return true;
        }

        int summers(World world, Rule rule, int m, int n, int p, int what) {
            int x = world.x;
            int like = 0;
            int claps = 0;
            for (int summer = 0; summer < m; summer++) {
                trial.copyFrom(world.scene);
                for (int i = 0; i < n; i++) {
                    x = drawnFrom(x);
                    if (x / 65536 % 100 < p) {
                        x = drawnFrom(x);
                        washOut(world.told, x / 65536);
                    }
                    days.one(world.told, trial, rule);
                }
                like += trial.like(world.told);
                claps += trial.claps - world.scene.claps;
            }
            return what == 0 ? like : claps;
        }

        private static int drawnFrom(int x) {
            return (int) ((x * 1103515245L + 12345L) & 2147483647L);
        }

        private void washOut(Told told, int draw) {
            if (told.cells > 0) {
                trial.owner[draw % told.cells] = NONE;
            }
        }
    }

    /** Compares what the RULES bring; NONE ahead of 0 stands for no RULE. */
    private static final class Judge {
        final Days days = new Days();
        final Scene trial = new Scene();
        // For each CELL how many have no STROKE in it, one of PEN 0, of PEN 1 and so on.
        final int[] alike = new int[MAX_CELLS * (MAX_PENS + 1)];

        int bestToRead(World world, Rule[] rules, int ruleCount, int n, int what) {
            Arrays.fill(alike, 0);
            for (int i = NONE; i < ruleCount; i++) {
                trial.copyFrom(world.scene);
                days.pass(world.told, trial, ruleOf(rules, i), n);
                addTrial(world.told);
            }
            return bestParting(world.told, what);
        }

        int agreeing(World world, Rule[] rules, int ruleCount, int what) {
            int many = 0;
            int first = NO_SUCH;
            for (int i = NONE; i < ruleCount; i++) {
                if (agrees(world, ruleOf(rules, i))) {
                    many++;
                    first = first == NO_SUCH ? i : first;
                }
            }
            return what == 0 ? many : first;
        }

        int bestToLookAt(World world, Rule[] rules, int ruleCount, int n, int what) {
            Arrays.fill(alike, 0);
            boolean any = false;
            for (int i = NONE; i < ruleCount; i++) {
                Rule rule = ruleOf(rules, i);
                if (agrees(world, rule)) {
                    any = true;
                    trial.begin(world.told);
                    days.pass(world.told, trial, rule, n);
                    addTrial(world.told);
                }
            }
            return any ? bestParting(world.told, what) : NO_SUCH;
        }

        private static Rule ruleOf(Rule[] rules, int i) {
            return i >= 0 && i < rules.length ? rules[i] : null;
        }

        private boolean agrees(World world, Rule rule) {
            int last = 0;
            for (int i = 0; i < world.notes; i++) {
                last = Math.max(last, world.noteDay[i]);
            }
            trial.begin(world.told);
            for (int day = 0; day <= last; day++) {
                if (!agreesToday(world)) {
                    return false;
                }
                days.one(world.told, trial, rule);
            }
            return true;
        }

        private boolean agreesToday(World world) {
            for (int i = 0; i < world.notes; i++) {
                if (world.noteDay[i] == trial.day && trial.owner[world.noteCell[i]] != world.notePen[i]) {
                    return false;
                }
            }
            return true;
        }

        private void addTrial(Told told) {
            for (int cell = 0; cell < told.cells; cell++) {
                int owner = trial.owner[cell];
                if (owner >= NONE && owner < MAX_PENS) {
                    alike[cell * (MAX_PENS + 1) + owner + 1]++;
                }
            }
        }

        private int bestParting(Told told, int what) {
            int best = 0;
            int fewest = MAX_RULES + 2;
            for (int cell = 0; cell < told.cells; cell++) {
                int most = 0;
                for (int i = 0; i <= MAX_PENS; i++) {
                    most = Math.max(most, alike[cell * (MAX_PENS + 1) + i]);
                }
                if (most < fewest) {
                    best = cell;
                    fewest = most;
                }
            }
            return what == 0 ? best : fewest;
        }
    }

    /** A GAME of two PENS, tried out to its end. */
    private static final class Match {
        final Told told = new Told();
        final int[] owner = new int[MAX_CELLS];
        final int[] player = new int[2];
        final int[] place = new int[2];
        int firstChoice;

        int play(World world, int one, int other, int turns, int what) {
            told.copyFrom(world.told);
            System.arraycopy(world.scene.owner, 0, owner, 0, MAX_CELLS);
            player[0] = one;
            player[1] = other;
            place[0] = world.scene.penCell[one];
            place[1] = world.scene.penCell[other];
            int outcome = outcomeFrom(0, turns);
            return what == 0 ? outcome : firstChoice;
        }

        private int outcomeFrom(int turn, int turns) {
            if (turn >= turns || turn >= MOST_TURNS) {
                return difference();
            }
            int mover = turn & 1;
            int from = place[mover];
            int best = 0;
            int bestChoice = NO_SUCH;
            for (int choice = NONE; choice < WAYS; choice++) {
                int to = choice == NONE ? from : told.beside(from, choice);
                if (choice == NONE || to != from) {
                    int outcome = outcomeOfGoing(mover, to, turn, turns);
                    if (bestChoice == NO_SUCH || (mover == 0 ? outcome > best : outcome < best)) {
                        best = outcome;
                        bestChoice = choice;
                    }
                }
            }
            if (turn == 0) {
                firstChoice = bestChoice;
            }
            return best;
        }

        private int outcomeOfGoing(int mover, int to, int turn, int turns) {
            int keptPlace = place[mover];
            int keptOwner = owner[to];
            place[mover] = to;
            owner[to] = player[mover];
            int outcome = outcomeFrom(turn + 1, turns);
            owner[to] = keptOwner;
            place[mover] = keptPlace;
            return outcome;
        }

        private int difference() {
            int difference = 0;
            for (int cell = 0; cell < told.cells; cell++) {
                if (owner[cell] == player[0]) {
                    difference++;
                } else if (owner[cell] == player[1]) {
                    difference--;
                }
            }
            return difference;
        }
    }
}
