/** For each promise of the document: ordinary calls, the edges that it names, and wrong ones. */
public final class PromiseTest {
    private static final String SMALLEST = "65536*65536*65536*32768";
    private static final Texts T = new Texts();

    private static SkySpire told(String text) {
        SkySpire x = new SkySpire();
        Texts.sky(x, text);
        return x;
    }

    private static SkySpire ruled(String sky, String... rules) {
        SkySpire x = told(sky);
        for (String rule : rules) {
            Texts.rule(x, rule);
        }
        return x;
    }

    private static SkySpire after(SkySpire x, int n) {
        for (int i = 0; i < n; i++) {
            x.day();
        }
        return x;
    }

    private static void due(String what, int want, int got) {
        T.due(what, want, got);
    }

    private static void counts(String what, SkySpire x, int... want) {
        for (int i = 0; i < want.length; i++) {
            due(what + " count(" + i + ")", want[i], x.count(i));
        }
    }

    // ---- texts

    private static void promise1New() {
        SkySpire x = new SkySpire();
        counts("new", x, 0, 0, 0, 0, 0, -1, 0, 0, 0, 0, 0, 0, 0, 0, 0);
        due("NONE", -1, SkySpire.NONE);
        due("a second object", 20, x.feed(0, 0, 0, 0, 0));
        due("is its own", 0, new SkySpire().count(14));
    }

    private static void promise2Feed() {
        SkySpire x = new SkySpire();
        for (int i = 1; i <= 20; i++) {
            due("feed " + i, 20 * i, x.feed(0x736b7920, -1, 0, 0, 0));
        }
        due("feed beyond 400", -1, x.feed(0, 0, 0, 0, 0));
        due("none came", 400, x.count(14));
        x.end(381);
        due("feed beyond 400 by one", -1, x.feed(0, 0, 0, 0, 0));
        x.end(380);
        due("feed up to 400", 400, x.feed(0, 0, 0, 0, 0));
        x.end(0);
        x.feed(0x736b7920, 0x3220313b, 0x6d61726b, 0x20333b70, 0x656e2030);
        x.feed(0x20370000, 0, 0, 0, 0);
        x.end(22);
        due("the highest byte first", 1, x.sky());
        due("stiff", 7, x.pen(0, 1));
        due("mark", 1, x.cell(3, 2));
        x.feed(0x736b79ff, 0, 0, 0, 0);
        due("bytes above 127", Texts.fault(3, 0), x.sky());
    }

    private static void promise3End() {
        SkySpire x = new SkySpire();
        x.feed(1, 2, 3, 4, 5);
        due("end 21", -1, x.end(21));
        due("end -1", -1, x.end(-1));
        due("nothing happened", 20, x.count(14));
        due("end 20", 20, x.end(20));
        due("end 7", 7, x.end(7));
        due("end 8", -1, x.end(8));
        due("count", 7, x.count(14));
        due("end 0", 0, x.end(0));
    }

    private static void skyFault(String text, int place, int kind) {
        SkySpire x = told("sky 3 5;pen 4 9");
        x.day();
        due("sky " + text, Texts.fault(place, kind), Texts.sky(x, text));
        due("TAPE behind " + text, 0, x.count(14));
        due("SKY behind " + text, 3, x.count(0));
        due("DAY behind " + text, 1, x.count(6));
        due("ACTS behind " + text, 1, x.count(12));
    }

    private static void promise4SkyFaults() {
        skyFault("", 0, 0);
        skyFault("   ", 3, 0);
        skyFault("sky", 3, 0);
        skyFault("sky 2", 5, 0);
        skyFault("sky 2 ", 6, 0);
        skyFault("sky 2 1;", 8, 0);
        skyFault("sky 2 1;;", 8, 0);
        skyFault("sky 2 1 1", 8, 0);
        skyFault("sky 2 1 pen 0 0", 8, 0);
        skyFault("Sky 2 1", 0, 0);
        skyFault("sky 2 1;row 1", 8, 0);
        skyFault("sky 2 1;penny 0 0", 8, 0);
        skyFault("sky 2 1;pen", 11, 0);
        skyFault("sky 2 1;pen 0", 13, 0);
        skyFault("sky 2 1;pen 0 -1", 14, 0);
        skyFault("sky 2 1;pen 0\t0", 13, 0);
        skyFault("sky 2 1;mark x", 13, 0);
        skyFault("sky 000002 1", 4, 1);
        skyFault("sky 1 0", 4, 1);
        skyFault("sky 6 61", 6, 1);
        skyFault("sky 6 1;pen 36 0", 12, 1);
        skyFault("sky 6 1;pen 35 10", 15, 1);
        skyFault("sky 6 1;wind 4 0", 13, 1);
        skyFault("sky 6 1;wind 3 10", 15, 1);
        skyFault("sky 6 1;mark 36", 13, 1);
        skyFault("  pen 0 0", 2, 4);
        skyFault("wind 0 0", 0, 4);
        skyFault("mark 0", 0, 4);
        skyFault("sky 2 1; sky", 9, 4);
        skyFault("sky 2 1" + ";pen 0 0".repeat(6), 7 + 40 + 1, 4);
        skyFault("sky 2 1" + ";pen 0 0".repeat(5) + ";pens", 7 + 40 + 1, 0);
        skyFault("sky 2 1" + ";wind 0 0".repeat(13), 7 + 108 + 1, 4);
        skyFault("sky 2 1" + ";mark 0".repeat(40), 7 + 39 * 7 + 1, 4);
        skyFault("sky 2 1" + ";mark 0".repeat(39) + ";marks", 7 + 39 * 7 + 1, 0);
        skyFault("sky 2 1" + ";mark 0".repeat(39) + "; ", 7 + 39 * 7 + 2, 0);
    }

    private static void promise4Sky() {
        SkySpire x = new SkySpire();
        due("no PENS", 0, Texts.sky(x, "sky 2 1"));
        counts("sky 2 1", x, 2, 1, 0, 0, 0, -1, 0, 0, 4);
        due("blanks", 2, Texts.sky(x, "  sky 06 00060 ;pen35 9; pen 0 0;mark 7;mark7 ;wind 3 9  "));
        counts("the second sky", x, 6, 60, 2, 1, 0, -1, 0, 0, 35, 0, 0, 0, 0, 0, 0);
        due("40 CLAUSES", 0, Texts.sky(x, "sky 2 1" + ";mark 0".repeat(39)));
        due("5 PENS", 5, Texts.sky(x, "sky 2 1" + ";pen 3 0".repeat(5)));
        due("12 winds", 0, Texts.sky(x, "sky 2 1" + ";wind 0 0".repeat(12)));
        due("winds", 12, x.count(3));
        Texts.rule(x, "write 1");
        x.force(0);
        x.seed(5);
        Texts.sky(x, "sky 2 1;pen 0 9;pen 0 9");
        x.day();
        x.stay(1);
        x.note(0, 0, -1);
        x.image(2);
        due("in place of it", 1, Texts.sky(x, "sky 3 7;pen 8 4"));
        counts("in place", x, 3, 7, 1, 0, 1, 0, 0, 0, 9, 0, 0, 0, 0, 5, 0);
        due("images stay", 1, x.back(2));
    }

    private static void ruleFault(String text, int place, int kind) {
        SkySpire x = new SkySpire();
        due("rule " + text, Texts.fault(place, kind), Texts.rule(x, text));
        due("TAPE behind " + text, 0, x.count(14));
        due("RULES behind " + text, 0, x.count(4));
    }

    private static void promise5RuleFaults() {
        ruleFault("", 0, 0);
        ruleFault("write", 5, 0);
        ruleFault("write 1;", 8, 0);
        ruleFault("write if 1=1", 6, 0);
        ruleFault("write not", 6, 0);
        ruleFault("write sky", 6, 0);
        ruleFault("write 1+", 8, 0);
        ruleFault("write -1", 6, 0);
        ruleFault("write [1]", 6, 0);
        ruleFault("write 1 2", 8, 0);
        ruleFault("write 1 and 2", 8, 0);
        ruleFault("write 1 if", 10, 0);
        ruleFault("write 1 if 1", 12, 0);
        ruleFault("write 1 if 1==1", 13, 0);
        ruleFault("write 1 if 1< =1", 14, 0);
        ruleFault("write 1 if 1=>1", 13, 0);
        ruleFault("write 1 if 1=1=1", 14, 0);
        ruleFault("write 1 if 1=1 or", 17, 0);
        ruleFault("write 1 if 1=1 and or", 19, 0);
        ruleFault("write 1 if [1=1", 15, 0);
        ruleFault("write 1 if [1=1;", 15, 0);
        ruleFault("write 1 if [1]=1", 13, 0);
        ruleFault("write 1 if 1=1 if 1=1", 15, 0);
        ruleFault("write 100000", 6, 1);
        ruleFault("write 1+000000", 8, 1);
        ruleFault("write 1 100000", 8, 0);
    }

    private static void promise5RuleLimits() {
        String clauses = "write 1;".repeat(12);
        ruleFault(clauses + "write 1", clauses.length(), 4);
        ruleFault(clauses + "writ", clauses.length(), 0);
        ruleFault(clauses, clauses.length(), 0);
        String opened = "write 1 if " + "[".repeat(10);
        ruleFault(opened + "[1=1", opened.length(), 2);
        ruleFault(opened + "not 1=1", opened.length(), 2);
        ruleFault(opened + "1=1" + "]".repeat(11), opened.length() + 13, 0);
        String nots = "write 1 if " + "not ".repeat(10);
        ruleFault(nots + "not 1=1", nots.length(), 2);
        ruleFault(nots + "[1=1]", nots.length(), 2);
        String values = "write 1" + "+1".repeat(59);
        ruleFault(values + "+1", values.length() + 1, 3);
        ruleFault(values + "*  day", values.length() + 3, 3);
        ruleFault(values + "+days", values.length() + 1, 0);
        ruleFault(values + "+100000", values.length() + 1, 1);
        ruleFault(values + "+;", values.length() + 1, 0);
        ruleFault(values + ";write 1", values.length() + 7, 3);
        String fewer = "write 1" + "+1".repeat(58);
        ruleFault(fewer + " if 1 >=1", fewer.length() + 6, 3);
        ruleFault(fewer + " if 1 ;", fewer.length() + 6, 0);
        String fewest = "write 1" + "+1".repeat(57);
        ruleFault(fewest + " if 1>= 1", fewest.length() + 8, 3);
        SkySpire x = new SkySpire();
        due("12 CLAUSES", 0, Texts.rule(x, clauses.substring(0, clauses.length() - 1)));
        due("10 deep", 1, Texts.rule(x, opened + "1=1" + "]".repeat(10) + "or" + "[".repeat(10) + "1=1" + "]".repeat(10)));
        due("not 10 deep", 2, Texts.rule(x, nots + "1=1 and not 1=1"));
        due("60 VALUES", 3, Texts.rule(x, values));
        due("60 VALUES and FACTS", 4, Texts.rule(x, "write 1" + "+1".repeat(56) + " if 1=1"));
        due("99999", 5, Texts.rule(x, "write 99999"));
        Texts.tape(x, "write 1");
        due("a seventh", -1, x.rule());
        due("nothing happened", 7, x.count(14));
        Texts.tape(x, "wrong");
        due("a wrong seventh", -1, x.rule());
        due("RULES", 6, x.count(4));
    }

    /** Who WRITES on DAY 3 of a SKY by a RULE. */
    private static int writers(String rule) {
        SkySpire x = told("sky 3 60;pen 5 2;pen 6 3;pen 6 9;wind 0 0;wind 1 1;wind 2 1;wind 3 2;wind 0 7;mark 6");
        x.day();
        x.day();
        x.day();
        x.blot(6);
        Texts.rule(x, rule);
        x.force(0);
        return x.day();
    }

    private static void rulesOfSums() {
        due("1", 7, writers("write 1"));
        due("0", 0, writers("write 0"));
        due("below 0", 0, writers("write 1-2"));
        due("first * then +", 7, writers("write 1 if 2+3*4=14"));
        due("from the left", 7, writers("write 1 if 7-2-1=4 and 24/4/2=3 and 24/4*2=12 and 7%4*2=6"));
        due("to 0", 7, writers("write 1 if 7/2=3 and 0-7/2=0-3"));
        due("/ of one below 0", 7, writers("write 1 if " + SMALLEST + "/5%10=0-1"));
        due("% of one below 0", 7, writers("write 1 if " + SMALLEST + "%3=0-2"));
        due("64 bits", 7, writers("write 1 if " + SMALLEST + "<0 and " + SMALLEST + "-1>0"));
        due("by 0", 7, writers("write 1 if 7/0=0 and 7%0=0"));
        due("many digits", 7, writers("write 00001 if 99999=100000/1 or 99999+1=99998+2"
            .replace("100000/1", "50000*2-1")));
    }

    private static void rulesOfTests() {
        due("<", 7, writers("write 1 if 1<2 and not 2<2 and not 3<2"));
        due("<=", 7, writers("write 1 if 1<=2 and 2<=2 and not 3<=2"));
        due("=", 7, writers("write 1 if not 1=2 and 2=2"));
        due(">=", 7, writers("write 1 if not 1>=2 and 2>=2 and 3>=2"));
        due(">", 7, writers("write 1 if not 1>2 and not 2>2 and 3>2"));
        due("and binds first", 7, writers("write 1 if 1=1 or 1=1 and 1=2"));
        due("and binds first", 7, writers("write 1 if 1=2 and 1=2 or 1=1"));
        due("not of what holds", 0, writers("write 1 if not 1=1"));
        due("not not", 7, writers("write 1 if not not 1=1 and 1=1"));
        due("brackets", 0, writers("write 1 if [1=1 or 1=1] and 1=2"));
        due("not binds first", 0, writers("write 1 if not 1=1 and 1=2"));
        due("not of brackets", 7, writers("write 1 if not [1=1 and 1=2]"));
        due("the first that holds", 0, writers("write 1 if 1=2;write 0 if 1=1;write 1"));
        due("the first without", 0, writers("write 0;write 1"));
        due("none holds", 0, writers("write 1 if 1=2;write 1 if 2=3"));
        due("no blanks", 7, writers("write1if1=1and2=2or3=3"));
    }

    // On DAY 3 of writers(): PEN 0 went never, PEN 1 and PEN 2 never, so they are in 5, 6 and 6.
    private static void rulesOfWords() {
        due("pen", 2, writers("write 1 if pen=1"));
        due("row", 6, writers("write 1 if row=2"));
        due("row", 1, writers("write 1 if row=1"));
        due("column", 1, writers("write 1 if column=2"));
        due("column", 6, writers("write 1 if column=0"));
        due("stiff", 4, writers("write 1 if stiff=9"));
        due("way", 7, writers("write 1 if way=3"));
        due("force", 7, writers("write 1 if force=2"));
        due("next", 7, writers("write 1 if next=7"));
        due("day", 7, writers("write 1 if day=3"));
        due("mark", 6, writers("write mark"));
        due("ink", 1, writers("write ink"));
        due("ink", 1, writers("write 1 if ink=1"));
        due("here", 1, writers("write here"));
        due("mine", 1, writers("write mine"));
        SkySpire x = ruled("sky 2 60;pen 0 9;pen 1 9", "write mine", "write here", "write ink-1");
        x.day();
        x.set(0, 1);
        x.force(0);
        due("mine is not another's", 2, x.day());
        x.undo();
        x.force(1);
        due("here of another", 3, x.day());
        x.undo();
        x.force(-1);
        x.set(0, 2);
        x.day();
        x.force(2);
        due("ink counts its own", 1, x.day());
    }

    private static void promise6Force() {
        SkySpire x = new SkySpire();
        due("none", -1, x.force(-1));
        due("no RULE", -2, x.force(0));
        due("below", -2, x.force(-2));
        Texts.rule(x, "write 0");
        Texts.rule(x, "write 1");
        due("0", -1, x.force(0));
        due("1", 0, x.force(1));
        due("2", -2, x.force(2));
        due("nothing happened", 1, x.count(5));
        due("none again", 1, x.force(-1));
        Texts.sky(x, "sky 2 1;pen 0 9");
        due("without a RULE", 1, x.day());
        x.force(0);
        due("by 0", 0, x.day());
        x.force(1);
        due("by 1", 1, x.day());
        due("force is no ACT", 3, x.count(12));
    }

    private static void promise7Pen() {
        SkySpire x = told("sky 3 9;pen 4 6;pen 7 0;wind 0 3");
        x.stay(0);
        x.day();
        due("CELL", 4, x.pen(0, 0));
        due("STIFF", 6, x.pen(0, 1));
        due("STAYED", 1, x.pen(0, 2));
        due("STROKES", 0, x.pen(0, 3));
        due("CELL of 1", 4, x.pen(1, 0));
        due("STIFF of 1", 0, x.pen(1, 1));
        due("STAYED of 1", 0, x.pen(1, 2));
        x.day();
        due("STROKES of 1", 2, x.pen(1, 3));
        due("no PEN", -1, x.pen(2, 0));
        due("below", -1, x.pen(-1, 0));
        due("no what", -1, x.pen(0, 4));
        due("what below", -1, x.pen(0, -1));
    }

    private static void promise8Cell() {
        SkySpire x = told("sky 3 9;pen 4 9;mark 8");
        x.day();
        x.day();
        due("whose", 0, x.cell(4, 0));
        due("of which DAY", 1, x.cell(4, 1));
        due("no mark", 0, x.cell(4, 2));
        due("nobody's", -1, x.cell(8, 0));
        due("of no DAY", -1, x.cell(8, 1));
        due("mark", 1, x.cell(8, 2));
        x.blot(4);
        due("blotted: of no DAY", -1, x.cell(4, 1));
        due("no CELL", -2, x.cell(9, 0));
        due("below", -2, x.cell(-1, 0));
        due("no what", -2, x.cell(0, 3));
        due("what below", -2, x.cell(0, -1));
        due("without a SKY", -2, new SkySpire().cell(0, 2));
    }

    private static int goesTo(String pen, String wind) {
        SkySpire x = told("sky 3 9;pen " + pen + wind);
        x.day();
        return x.pen(0, 0);
    }

    private static void promise9DayMoves() {
        due("WAY 0", 1, goesTo("4 5", ";wind 0 5"));
        due("WAY 1", 5, goesTo("4 5", ";wind 1 5"));
        due("WAY 2", 7, goesTo("4 5", ";wind 2 5"));
        due("WAY 3", 3, goesTo("4 5", ";wind 3 5"));
        due("STIFFER", 4, goesTo("4 6", ";wind 3 5"));
        due("at the edge 0", 2, goesTo("2 0", ";wind 0 5"));
        due("at the edge 1", 2, goesTo("2 0", ";wind 1 5"));
        due("at the edge 2", 6, goesTo("6 0", ";wind 2 5"));
        due("at the edge 3", 3, goesTo("3 0", ";wind 3 5"));
        due("without winds", 1, goesTo("4 0", ""));
        due("without winds, stiff", 4, goesTo("4 1", ""));
        SkySpire x = told("sky 4 9;pen 0 0;wind 1 0;wind 2 0;wind 1 0");
        after(x, 5);
        due("the winds come round", 11, x.pen(0, 0));
        x = told("sky 3 9;pen 0 0;wind 1 9");
        x.stay(0);
        x.day();
        due("STAYED", 0, x.pen(0, 0));
        x = ruled("sky 3 9;pen 0 0;wind 1 9", "write 0");
        x.force(0);
        x.day();
        due("one that does not write goes too", 1, x.pen(0, 0));
        due("and leaves nothing", 0, x.count(7));
    }

    private static void promise9DayStrokes() {
        due("without a SKY", -1, new SkySpire().day());
        SkySpire x = told("sky 2 9");
        due("without PENS", 0, x.day());
        due("DAY", 1, x.count(6));
        x = told("sky 2 9;pen 0 9;pen 0 9;pen 3 9;pen 3 9;pen 3 9");
        due("all write", 31, x.day());
        due("a CLAP a CELL", 2, x.count(9));
        due("no STROKE", 0, x.count(7));
        x.stay(1);
        due("one STAYED", 29, x.day());
        due("no CLAP with one that does not write", 3, x.count(9));
        due("its STROKE", 0, x.cell(0, 0));
        x.stay(1);
        x.day();
        due("gone by a CLAP", -1, x.cell(0, 0));
        x = told("sky 2 9;pen 0 9;pen 1 9");
        x.day();
        x.set(0, 1);
        x.set(1, 0);
        x.day();
        due("in place of another", 0, x.cell(1, 0));
        due("of this DAY", 1, x.cell(1, 1));
        x = ruled("sky 3 9;pen 0 0;wind 1 0", "write column");
        x.force(0);
        due("as the DAY begins", 0, x.day());
        due("as the DAY begins", 1, x.day());
    }

    private static void promise9DayFades() {
        for (int fades = 1; fades <= 3; fades++) {
            SkySpire x = told("sky 2 " + fades + ";pen 0 9");
            x.day();
            x.stay(0);
            after(x, fades - 1);
            due("there yet, FADES " + fades, 0, x.cell(0, 0));
            x.day();
            due("faded, FADES " + fades, -1, x.cell(0, 0));
        }
        SkySpire x = told("sky 2 1;pen 0 9");
        after(x, 998);
        due("DAY 998", 1, x.day());
        due("DAY 999", -1, x.day());
        due("nothing happened", 999, x.count(6));
        due("beyond 999", 0, x.ahead(0, 100, 0));
        due("ACTS", 20, x.count(12));
        x.stay(0);
        x.blot(0);
        due("SIGN at 999", 999, x.sign());
    }

    // ---- acts

    private static void promise10Stay() {
        SkySpire x = told("sky 2 9;pen 0 9;pen 1 9;pen 2 9");
        due("stay 1", 2, x.stay(1));
        due("stay 2", 6, x.stay(2));
        due("stay 1 no more", 4, x.stay(1));
        due("no PEN", -1, x.stay(3));
        due("below", -1, x.stay(-1));
        due("nothing happened", 3, x.count(12));
        due("STAYED do not write", 3, x.day());
        due("count", 4, x.count(10));
    }

    private static void promise11Set() {
        SkySpire x = told("sky 2 9;pen 0 9;pen 1 9");
        due("where it was", 0, x.set(0, 3));
        due("where it is", 3, x.pen(0, 0));
        due("the same", -1, x.set(0, 3));
        due("no CELL", -1, x.set(0, 4));
        due("below", -1, x.set(0, -1));
        due("no PEN", -1, x.set(2, 0));
        due("ACTS", 1, x.count(12));
        due("into one CELL", 1, x.set(1, 3));
        x.stay(0);
        due("one that is STAYED", 3, x.set(0, 2));
    }

    private static void promise12Bend() {
        SkySpire x = told("sky 2 9;pen 0 9;wind 1 4");
        due("how STIFF it was", 9, x.bend(0, 0));
        due("the same", -1, x.bend(0, 0));
        due("beyond", -1, x.bend(0, 10));
        due("below", -1, x.bend(0, -1));
        due("no PEN", -1, x.bend(1, 0));
        due("ACTS", 1, x.count(12));
        due("up again", 0, x.bend(0, 9));
        x.bend(0, 4);
        x.day();
        due("it goes", 1, x.pen(0, 0));
    }

    private static void promise13Blot() {
        SkySpire x = told("sky 2 9;pen 0 9;pen 1 9");
        due("no STROKE yet", -1, x.blot(0));
        x.day();
        due("whose", 1, x.blot(1));
        due("there no more", -1, x.cell(1, 0));
        due("twice", -1, x.blot(1));
        due("no CELL", -1, x.blot(4));
        due("below", -1, x.blot(-1));
        due("ACTS", 2, x.count(12));
        due("STROKES", 1, x.count(7));
    }

    private static void promise14Undo() {
        SkySpire x = told("sky 2 1;pen 0 9;pen 0 9;pen 1 9");
        due("none", -2, x.undo());
        x.day();
        x.stay(0);
        x.day();
        due("STAYED", 1, x.count(10));
        due("the second DAY", 2, x.undo());
        counts("after it", x, 2, 1, 3, 0, 0, -1, 1, 1, 3, 1, 1, 0, 2);
        due("STAY", 1, x.undo());
        due("STAYED no more", 0, x.count(10));
        due("the first DAY", 0, x.undo());
        counts("as told", x, 2, 1, 3, 0, 0, -1, 0, 0, 4, 0, 0, 0, 0);
        for (int i = 0; i < 25; i++) {
            x.bend(0, i % 2);
        }
        due("20 at most", 20, x.count(12));
        for (int i = 19; i >= 0; i--) {
            due("undo", i, x.undo());
        }
        due("none more", -2, x.undo());
        due("the state behind the first five", 0, x.pen(0, 1));
        x.set(2, 2);
        x.seed(7);
        x.note(0, 0, -1);
        x.undo();
        due("x stays", 7, x.count(13));
        due("NOTES stay", 1, x.count(11));
        due("SET undone", 1, x.pen(2, 0));
        x = told("sky 2 1;pen 0 9");
        x.day();
        x.stay(0);
        x.day();
        x.undo();
        due("what faded is there again", 0, x.cell(0, 0));
        due("with its DAY", 0, x.cell(0, 1));
        x.blot(0);
        x.undo();
        due("what was blotted, too", 0, x.cell(0, 0));
        x.bend(0, 3);
        x.undo();
        due("BEND", 9, x.pen(0, 1));
    }

    // ---- what is asked

    private static void promise15Ahead() {
        SkySpire x = told("sky 3 2;pen 0 3;wind 1 4;wind 2 5;mark 1;mark 4");
        due("0 DAYS", -1, x.ahead(1, 0, 0));
        due("whose", 0, x.ahead(1, 1, 0));
        due("its CELL", 8, x.ahead(0, 100, 1));
        due("STROKES", 3, x.ahead(-5, 3, 2) + x.ahead(-5, 1, 2));
        due("LIKE", 9, x.ahead(99, 2, 3));
        due("n below", -2, x.ahead(0, -1, 0));
        due("n beyond", -2, x.ahead(0, 101, 3));
        due("what below", -2, x.ahead(0, 1, -1));
        due("what beyond", -2, x.ahead(0, 1, 4));
        due("no CELL", -2, x.ahead(9, 1, 0));
        due("no PEN", -2, x.ahead(1, 1, 1));
        due("nothing changes", 0, x.count(6) + x.count(7) + x.count(12));
        due("without a SKY", -2, new SkySpire().ahead(0, 0, 2));
        Texts.rule(x, "write 0");
        x.force(0);
        due("by the RULE IN FORCE", 0, x.ahead(0, 3, 2));
    }

    private static void promise16Sign() {
        SkySpire x = told("sky 2 60;pen 0 9");
        due("no MARK", 0, x.sign());
        x = told("sky 2 60;pen 0 9;mark 0");
        due("at DAY 1", 1, x.sign());
        after(x, 5);
        due("this one the first", 5, x.sign());
        x = told("sky 2 60;pen 0 9;mark 1");
        due("never", -2, x.sign());
        x = ruled("sky 2 60;pen 0 9;mark 0", "write 1 if day=98", "write 1 if day=99");
        x.force(0);
        due("of 100 the last", 99, x.sign());
        x.force(1);
        due("one too late", -2, x.sign());
        due("without a SKY", -1, new SkySpire().sign());
        x = told("sky 2 60;pen 0 9;pen 1 9;mark 0");
        due("others do not matter", 1, x.sign());
    }

    private static void promise17Clean() {
        SkySpire x = told("sky 2 60;pen 0 9");
        due("no MARK, no STROKE", 0, x.clean());
        x.day();
        due("a STROKE elsewhere", -2, x.clean());
        x = told("sky 2 60;pen 0 9;mark 0");
        due("at DAY 1", 1, x.clean());
        x = told("sky 2 60;pen 0 9;pen 1 9;mark 0");
        due("never", -2, x.clean());
        x.day();
        x.stay(1);
        due("when the other fades", 61, x.clean());
        due("without a SKY", -1, new SkySpire().clean());
    }

    private static void promise18Hold() {
        SkySpire x = told("sky 2 60;pen 0 9;pen 1 9;mark 0");
        due("the set", 2, x.hold(1, 0));
        due("how LIKE", 4, x.hold(1, 1));
        x.stay(0);
        due("and no others", 2, x.hold(60, 0));
        due("nothing changes", 1, x.count(10));
        x = told("sky 2 60;pen 0 9;pen 0 9;mark 1");
        due("fewest", 0, x.hold(1, 0));
        due("fewest, LIKE", 3, x.hold(1, 1));
        x = told("sky 2 60;pen 0 9;pen 0 9;mark 0");
        due("least as bits", 1, x.hold(1, 0));
        x = told("sky 2 60;pen 0 9;pen 1 9;pen 2 9;mark 3");
        due("all", 7, x.hold(1, 0));
        x = told("sky 2 60;pen 0 9;pen 0 9;pen 0 9;mark 0");
        due("one STAYED does not do", 3, x.hold(1, 0));
        due("two of three", 4, x.hold(1, 1));
        due("n 0", -1, x.hold(0, 0));
        due("n 61", -1, x.hold(61, 0));
        due("what", -1, x.hold(1, 2));
        due("what below", -1, x.hold(1, -1));
        due("without a SKY", -1, new SkySpire().hold(1, 1));
    }

    private static void promise19Wrote() {
        SkySpire x = told("sky 3 1;pen 0 0;pen 0 0;pen 8 9;wind 1 9");
        due("each alone", 3, x.wrote(1, 1));
        due("not yet", 0, x.wrote(2, 1));
        due("at the end of the second", 3, x.wrote(2, 2));
        due("faded since", 3, x.wrote(1, 60));
        due("where it stands", 4, x.wrote(8, 1));
        x.stay(0);
        due("it as it is", 2, x.wrote(1, 5));
        due("nothing changes", 1, x.count(10));
        due("no CELL", -1, x.wrote(9, 1));
        due("below", -1, x.wrote(-1, 1));
        due("n 0", -1, x.wrote(0, 0));
        due("n 61", -1, x.wrote(0, 61));
        Texts.rule(x, "write pen-1");
        x.force(0);
        due("by the RULE", 0, x.wrote(1, 9));
        due("by the RULE", 4, x.wrote(8, 9));
        due("without a SKY", -1, new SkySpire().wrote(0, 1));
        promise19WroteOnEarlierDays();
    }

    private static void promise19WroteOnEarlierDays() {
        SkySpire x = told("sky 3 60;pen 0 0;pen 8 9;wind 1 8;wind 3 8");
        x.day();
        due("its STROKE of DAY 0", 0, x.cell(1, 0));
        due("is there at the end of DAY 1", 0, x.ahead(1, 1, 0));
        due("but was left ahead of it", 0, x.wrote(1, 1));
        due("it comes again on DAY 2", 1, x.wrote(1, 2));
        due("the one of DAY 1", 1, x.wrote(0, 1));
        due("in its own place again", 2, x.wrote(8, 1));
        x.stay(1);
        due("one that is STAYED leaves none, though one is there", 0, x.wrote(8, 60));
        Texts.rule(x, "write 0");
        x.force(0);
        due("nor one that never WRITES", 0, x.wrote(1, 60));
        x.force(-1);
        x.blot(1);
        due("a BLOT does not matter", 1, x.wrote(1, 2));
        x.undo();
        x.undo();
        due("UNDONE", 2, x.wrote(8, 1));
    }

    private static void promise20Came() {
        SkySpire x = told("sky 3 2;pen 0 3;pen 8 5;wind 1 4;wind 2 5");
        due("from one", 1, x.came(0, 4, 2, 0));
        due("from where it is", 0, x.came(0, 4, 2, 1));
        due("along the edges", 4, x.came(0, 8, 2, 0));
        due("the least", 4, x.came(0, 8, 2, 1));
        due("none", 0, x.came(0, 0, 2, 0));
        due("the least of none", -2, x.came(0, 0, 2, 1));
        due("a stiffer one", 1, x.came(1, 0, 1, 0));
        x.stay(0);
        due("STAYED", 1, x.came(0, 0, 60, 0));
        due("STAYED", 5, x.came(0, 5, 60, 1));
        due("no PEN", -1, x.came(2, 0, 1, 0));
        due("no CELL", -1, x.came(0, 9, 1, 0));
        due("n 0", -1, x.came(0, 0, 0, 0));
        due("n 61", -1, x.came(0, 0, 61, 0));
        due("what", -1, x.came(0, 0, 1, 2));
        due("what below", -1, x.came(0, 0, 1, -1));
    }

    private static void promise21Change() {
        SkySpire x = told("sky 2 60;pen 0 0;wind 1 9;wind 2 9;wind 2 9;mark 2");
        due("how LIKE", 4, x.change(1, 0));
        due("the first", 0, x.change(1, 1));
        due("the other", 1, x.change(1, 2));
        due("the winds stay", 1, x.ahead(0, 1, 1));
        x = told("sky 2 60;pen 0 0;wind 1 9;wind 2 9;mark 1");
        due("none, LIKE", 4, x.change(1, 0));
        due("none", -1, x.change(1, 1));
        due("none", -1, x.change(1, 2));
        x = told("sky 2 60;pen 0 3;wind 1 2;wind 1 3;mark 1");
        due("FORCE goes along", 4, x.change(1, 0));
        x = told("sky 2 60;mark 1");
        due("without winds", 3, x.change(60, 0));
        due("without winds", -1, x.change(60, 1));
        due("without SKY: what 0", -2, new SkySpire().change(1, 0));
        x = told("sky 3 60;pen 0 0;wind 1 9;wind 1 9;wind 2 9;wind 2 9;mark 3;mark 4;mark 7");
        due("the first with the last: 3, 4, 7", 9, x.change(3, 0));
        due("the first", 0, x.change(3, 1));
        due("the last", 3, x.change(3, 2));
        x = told("sky 2 60;mark 1");
        due("without winds", -1, x.change(60, 2));
        due("n 0", -2, x.change(0, 0));
        due("n 61", -2, x.change(61, 0));
        due("what", -2, x.change(1, 3));
        due("what below", -2, x.change(1, -1));
        due("without a SKY", -2, new SkySpire().change(1, 1));
    }

    private static void promise22Game() {
        SkySpire x = told("sky 2 60;pen 0 9;pen 1 9");
        due("one turn", 1, x.game(0, 1, 1, 0));
        due("it stays", -1, x.game(0, 1, 1, 1));
        x.day();
        due("it takes one", 2, x.game(0, 1, 1, 0));
        due("by WAY 1", 1, x.game(0, 1, 1, 1));
        due("and is taken one", 0, x.game(0, 1, 2, 0));
        due("by WAY 1", 1, x.game(0, 1, 2, 1));
        due("the other by WAY 3", 3, x.game(1, 0, 1, 1));
        x.stay(0);
        due("STAYED or not", 2, x.game(0, 1, 1, 0));
        due("nothing changes", 1, x.pen(0, 3) * x.pen(1, 3));
        due("alike", -1000, x.game(0, 0, 1, 0));
        due("no PEN", -1000, x.game(0, 2, 1, 0));
        due("no PEN", -1000, x.game(-1, 0, 1, 0));
        due("n 0", -1000, x.game(0, 1, 0, 0));
        due("n 5", -1000, x.game(0, 1, 5, 0));
        due("what", -1000, x.game(0, 1, 1, 2));
        due("what below", -1000, x.game(0, 1, 1, -1));
        x = told("sky 2 1;pen 0 9;pen 3 9;pen 0 9");
        x.day();
        x.stay(1);
        due("below 0", -1, x.game(0, 1, 2, 0));
        due("stays ahead of WAY 0", -1, x.game(0, 1, 2, 1));
    }

    private static void promise23Rests() {
        SkySpire x = told("sky 2 60;pen 0 9;pen 1 9;wind 1 5");
        due("how many", 8, x.rests(0, 1, 1, 0));
        due("the first one", 6, x.rests(0, 1, 1, 1));
        due("the second one", 0, x.rests(0, 1, 1, 2));
        due("the other way round", 0, x.rests(1, 0, 1, 1));
        due("the other way round", 6, x.rests(1, 0, 1, 2));
        due("nothing changes", 9, x.pen(0, 1));
        due("alike", -1, x.rests(1, 1, 1, 0));
        due("no PEN", -1, x.rests(0, 2, 1, 0));
        due("n 0", -1, x.rests(0, 1, 0, 0));
        due("n 21", -1, x.rests(0, 1, 21, 0));
        due("n 20", 16, told("sky 2 1;pen 0 0;pen 3 0;wind 1 9").rests(0, 1, 20, 0));
        SkySpire y = ruled("sky 4 5;pen 2 9;pen 3 9;wind 3 3;wind 3 9", "write column+pen");
        y.force(0);
        due("no rest: each goes round behind the other", 0, y.rests(0, 1, 3, 0));
        due("the first of none", -2, y.rests(0, 1, 3, 1));
        due("the first of none", -2, y.rests(0, 1, 3, 2));
        due("what", -1, x.rests(0, 1, 1, 3));
        due("what below", -1, x.rests(0, 1, 1, -1));
    }

    private static void promise24Pence() {
        SkySpire x = told("sky 2 60;pen 0 9;pen 1 9;pen 2 9");
        due("no STROKES", 0, x.pence(9, 0));
        x.day();
        due("the least first", 4, x.pence(10, 0));
        due("the least first", 3, x.pence(10, 1));
        due("two left", 4, x.pence(11, 1));
        due("two left", 3, x.pence(11, 2));
        due("parts of 0", 1, x.pence(2, 1));
        due("parts of 0", 0, x.pence(2, 2));
        due("9999", 3333, x.pence(9999, 2));
        due("0", 0, x.pence(0, 0));
        x.blot(0);
        due("none of its own", 0, x.pence(9, 0));
        due("of two", 5, x.pence(9, 1));
        x.set(1, 3);
        x.stay(0);
        x.day();
        due("lost most", 1, x.pence(1, 1));
        due("lost less", 0, x.pence(1, 2));
        due("below", -1, x.pence(-1, 0));
        due("beyond", -1, x.pence(10000, 0));
        due("no PEN", -1, x.pence(1, 3));
    }

    private static void promise25Read() {
        SkySpire x = ruled("sky 2 60;pen 1 9;pen 2 9", "write 0");
        due("the CELL", 1, x.read(1, 0));
        due("how many", 1, x.read(1, 1));
        Texts.rule(x, "write pen");
        due("the most alike are fewest", 1, x.read(60, 0));
        due("how many", 2, x.read(60, 1));
        x.force(0);
        due("whatever is IN FORCE", 2, x.read(1, 1));
        due("nothing changes", 0, x.count(6));
        due("n 0", -1, x.read(0, 0));
        due("n 61", -1, x.read(61, 0));
        due("what", -1, x.read(1, 2));
        due("what below", -1, x.read(1, -1));
        due("without a SKY", -1, new SkySpire().read(1, 0));
        x = ruled("sky 2 60;pen 0 9;pen 0 9", "write pen", "write 1-pen");
        due("by whose it is", 1, x.read(1, 1));
    }

    private static void promise26Note() {
        SkySpire x = told("sky 2 60;pen 1 9");
        due("one", 1, x.note(0, 0, -1));
        due("two", 2, x.note(60, 3, 0));
        due("n 61", -2, x.note(61, 0, 0));
        due("n -2", -2, x.note(-2, 0, 0));
        due("no CELL", -2, x.note(0, 4, 0));
        due("no CELL", -2, x.note(0, -1, 0));
        due("no PEN", -2, x.note(0, 0, 1));
        due("no PEN", -2, x.note(0, 0, -2));
        due("nothing happened", 2, x.count(11));
        for (int i = 3; i <= 10; i++) {
            due("more", i, x.note(0, 0, -1));
        }
        due("an eleventh", -2, x.note(0, 0, -1));
        due("no ACT", -2, x.undo());
        due("none then", 0, x.note(-1, 99, 99));
        due("none then", 0, x.count(11));
        due("none without a SKY", 0, new SkySpire().note(-1, 0, 0));
        due("without a SKY", -2, new SkySpire().note(0, 0, -1));
    }

    private static void promise27Ruled() {
        SkySpire x = ruled("sky 2 1;pen 1 9", "write 0", "write 1 if day=0");
        due("all, by no NOTES", 3, x.ruled(0));
        due("none ahead of 0", -1, x.ruled(1));
        x.note(1, 1, 0);
        due("two", 2, x.ruled(0));
        x.note(2, 1, -1);
        due("one", 1, x.ruled(0));
        due("RULE 1", 1, x.ruled(1));
        x.set(0, 0);
        x.bend(0, 0);
        x.stay(0);
        x.day();
        due("as the text told it", 1, x.ruled(1));
        x.note(0, 1, 0);
        due("none", 0, x.ruled(0));
        due("none such", -2, x.ruled(1));
        x.note(-1, 0, 0);
        x.note(0, 1, -1);
        due("at the begin of all", 3, x.ruled(0));
        x.note(60, 1, 0);
        due("at the 60th", -1, x.ruled(1));
        due("at the 60th", 1, x.ruled(0));
        due("what", -3, x.ruled(2));
        due("what below", -3, x.ruled(-1));
        due("without a SKY", -3, new SkySpire().ruled(0));
    }

    private static void promise28Look() {
        SkySpire x = ruled("sky 2 1;pen 1 9", "write 0", "write 1 if day=0");
        due("at the begin all alike", 0, x.look(0, 0));
        due("at the begin all alike", 3, x.look(0, 1));
        due("at DAY 1", 1, x.look(1, 0));
        due("at DAY 1", 2, x.look(1, 1));
        x.note(1, 1, 0);
        due("these alone", 2, x.look(1, 1));
        due("they part", 1, x.look(2, 0));
        due("they part", 1, x.look(60, 1));
        x.set(0, 0);
        x.day();
        due("as the text told it", 1, x.look(2, 0));
        x.note(1, 1, -1);
        due("no RULE is so", -2, x.look(2, 0));
        due("no RULE is so", -2, x.look(2, 1));
        due("n below", -1, x.look(-1, 0));
        due("n beyond", -1, x.look(61, 0));
        due("what", -1, x.look(0, 2));
        due("what below", -1, x.look(0, -1));
        due("without a SKY", -1, new SkySpire().look(0, 0));
    }

    private static void promise29Seed() {
        SkySpire x = new SkySpire();
        due("at first", 0, x.seed(2147483647));
        due("what it was", 2147483647, x.seed(5));
        due("below 0", -1, x.seed(-1));
        due("nothing happened", 5, x.count(13));
        due("0 again", 5, x.seed(0));
        due("0", 0, x.count(13));
    }

    // From 0 the DRAWS are 0, 21468, 9988, 22117, 3498, 16927, 16045, 19741.
    private static void promise30Rains() {
        SkySpire x = told("sky 2 60;pen 0 9;pen 0 9;pen 3 9");
        x.stay(0);
        x.stay(1);
        x.stay(2);
        due("no STROKE", 4, x.rains(1, 1, 100, 0));
        x = told("sky 2 60;pen 0 9;pen 1 9;mark 2");
        x.day();
        x.stay(0);
        x.stay(1);
        due("dry", 1, x.rains(1, 1, 0, 0));
        due("the first DRAW is 0, the second mod 4 is 0", 2, x.rains(1, 1, 1, 0));
        due("9988 mod 100 is 88: dry", 2, x.rains(1, 2, 88, 0));
        due("88 is below 89, 22117 mod 4 is 1", 3, x.rains(1, 2, 89, 0));
        due("from now on each, x goes on", 4, x.rains(2, 1, 89, 0));
        due("three times: 3498 mod 100 is 98", 5, x.rains(3, 1, 89, 0));
        due("x as it was", 0, x.count(13));
        due("nothing changes", 2, x.count(7));
        x = told("sky 2 60;pen 0 9;pen 0 9;pen 3 9;pen 3 9");
        x.day();
        due("CLAPS all together", 12, x.rains(3, 2, 50, 1));
        due("CLAPS stay", 2, x.count(9));
        due("10 times 60", 1200, x.rains(10, 60, 100, 1));
        due("m 0", -1, x.rains(0, 1, 0, 0));
        due("m 11", -1, x.rains(11, 1, 0, 0));
        due("n 0", -1, x.rains(1, 0, 0, 0));
        due("n 61", -1, x.rains(1, 61, 0, 0));
        due("p below", -1, x.rains(1, 1, -1, 0));
        due("p beyond", -1, x.rains(1, 1, 101, 0));
        due("what", -1, x.rains(1, 1, 0, 2));
        due("what below", -1, x.rains(1, 1, 0, -1));
        due("without a SKY", -1, new SkySpire().rains(1, 1, 0, 0));
    }

    private static void promise31Count() {
        SkySpire x = ruled("sky 3 7;pen 0 9;pen 0 9;pen 8 9;wind 0 0;wind 1 1;mark 8;mark 8;mark 7", "write 1", "write 2");
        x.force(1);
        x.day();
        x.stay(2);
        x.note(0, 0, -1);
        x.seed(77);
        x.feed(0, 0, 0, 0, 0);
        x.end(3);
        counts("count", x, 3, 7, 3, 2, 2, 1, 1, 1, 8, 1, 4, 1, 2, 77, 3);
        due("15", -1, x.count(15));
        due("-1", -1, x.count(-1));
        due("far", -1, x.count(Integer.MIN_VALUE));
    }

    private static void promise32Image() {
        SkySpire x = new SkySpire();
        due("without a SKY", 0, x.image(0));
        due("4", -1, x.image(4));
        due("-1", -1, x.image(-1));
        Texts.sky(x, "sky 2 9;pen 0 9");
        x.day();
        due("the DAY", 1, x.image(3));
        due("no ACT", 1, x.count(12));
        x.day();
        due("made anew", 2, x.image(3));
        x.day();
        due("gone back to", 2, x.back(3));
    }

    private static void promise33Back() {
        SkySpire x = told("sky 2 9;pen 0 9;pen 0 8;wind 1 8;mark 0");
        due("never made", -1, x.back(0));
        due("4", -1, x.back(4));
        due("-1", -1, x.back(-1));
        Texts.rule(x, "write 1");
        x.force(0);
        x.day();
        x.stay(1);
        x.note(1, 1, 1);
        x.seed(9);
        x.image(1);
        Texts.rule(x, "write 0");
        x.force(1);
        x.undo();
        x.undo();
        x.bend(0, 1);
        x.note(-1, 0, 0);
        x.seed(3);
        Texts.sky(x, "sky 3 1;mark 8;wind 0 0;wind 0 0");
        x.feed(0, 0, 0, 0, 0);
        due("the DAY", 1, x.back(1));
        counts("all but RULES and TAPE", x, 2, 9, 2, 1, 2, 0, 1, 2, 3, 0, 2, 1, 2, 9, 20);
        due("STIFF", 9, x.pen(0, 1));
        due("the STROKE of 1", 1, x.cell(1, 0));
        due("the MARK", 1, x.cell(0, 2));
        due("the NOTE", 2, x.ruled(0));
        due("STAY undone", 1, x.undo());
        due("the DAY undone", 0, x.undo());
        due("as told", 0, x.count(7));
        x.day();
        due("the IMAGE stays as it was", 1, x.back(1));
        due("what can be UNDONE, too", 2, x.count(12));
        due("STAYED", 2, x.count(10));
    }

    private static void promise33BackToOtherRows() {
        SkySpire x = ruled("sky 3 9;pen 0 9;pen 4 9", "write 0");
        x.bend(0, 1);
        x.set(0, 5);
        x.stay(1);
        x.note(1, 4, -1);
        x.image(0);
        for (int i = 0; i < 25; i++) {
            x.set(1, i % 3);
        }
        x.note(-1, 0, 0);
        x.note(2, 0, 0);
        x.note(0, 8, -1);
        x.image(1);
        x.back(0);
        due("its NOTE: RULE 0", 1, x.ruled(0));
        due("its NOTE: RULE 0", 0, x.ruled(1));
        due("its last ACT", 2, x.undo());
        due("STAYED no more", 0, x.count(10));
        due("CELL of 1", 4, x.pen(1, 0));
        due("SET", 1, x.undo());
        due("CELL of 0", 0, x.pen(0, 0));
        due("BENT yet", 1, x.pen(0, 1));
        due("BEND", 0, x.undo());
        due("as told", 9, x.pen(0, 1));
        x.back(1);
        due("the other NOTES: none", -1, x.ruled(1));
        due("20 ACTS", 20, x.count(12));
        for (int i = 19; i >= 0; i--) {
            due("undone", i, x.undo());
            due("CELL of 1", (i + 4) % 3, x.pen(1, 0));
        }
    }

    public static void main(String[] args) {
        promise1New();
        promise2Feed();
        promise3End();
        promise4SkyFaults();
        promise4Sky();
        promise5RuleFaults();
        promise5RuleLimits();
        rulesOfSums();
        rulesOfTests();
        rulesOfWords();
        promise6Force();
        promise7Pen();
        promise8Cell();
        promise9DayMoves();
        promise9DayStrokes();
        promise9DayFades();
        promise10Stay();
        promise11Set();
        promise12Bend();
        promise13Blot();
        promise14Undo();
        promise15Ahead();
        promise16Sign();
        promise17Clean();
        promise18Hold();
        promise19Wrote();
        promise20Came();
        promise21Change();
        promise22Game();
        promise23Rests();
        promise24Pence();
        promise25Read();
        promise26Note();
        promise27Ruled();
        promise28Look();
        promise29Seed();
        promise30Rains();
        promise31Count();
        promise32Image();
        promise33Back();
        promise33BackToOtherRows();
        T.close("PromiseTest");
    }
}
