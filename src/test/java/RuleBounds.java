/** Promises 5 and 6: RULES, and which is IN FORCE. */
final class RuleBounds {
    // 2 to the 63rd: in 64 bits the least number there is.
    private static final String LEAST = "65536*65536*65536*32768";

    private final Bounds b;

    private RuleBounds(Bounds b) {
        this.b = b;
    }

    static void run(Bounds b) {
        RuleBounds r = new RuleBounds(b);
        r.amounts();
        r.parts();
        r.sums();
        r.wordsOfAPen();
        r.faults();
        b.test(5, "The TAPE, which is empty then, is a RULE: its number; -2 - its FAULT", r::itsNumber);
        b.test(5, "NONE, and nothing happens: there are 6.", r::thereAre6);
        b.test(6, "A RULE is IN FORCE (NONE: none): which was", r::whichWas);
        b.test(6, "-2, and nothing happens, if there is none such.", r::noneSuch);
    }

    private void amounts() {
        b.test(5, "RULES 0 to 5", this::rules);
        b.test(5, "texts likewise, 12 CLAUSES at most", this::clauses);
        b.test(5, "[ and not lie within one another 10 deep at most", this::deep);
        b.test(5, "at most 60 VALUES (of SUMS) and FACTS made of a SIGN, together.", this::values);
        b.test(5, "NUMBER (1 to 5 digits, as far as digits go on)", this::digits);
        b.test(5, "WORDS (small letters, as far as these go on)", this::words);
        b.test(5, "Blanks (32) stand between as one likes.", this::blanks);
    }

    private void parts() {
        b.test(5, "write SUM [ if TEST ].", this::ifOrNot);
        b.test(5, "TEST: PART { or PART }.", this::or);
        b.test(5, "PART: FACT { and FACT }.", this::and);
        b.test(5, "FACT: not FACT | [ TEST ] (these brackets are signs) | SUM SIGN SUM", this::facts);
        b.test(5, "SIGN one of < <= = >= >.", this::signs);
    }

    private void sums() {
        b.test(5, "SUM: TERM { (+ or -) TERM }. TERM: VALUE { (* or / or %) VALUE }.", this::order);
        b.test(5, "/ is towards 0, % its rest, both 0 by 0", this::parted);
        b.test(5, "all goes round in 64 bits.", this::round);
    }

    private void wordsOfAPen() {
        b.test(5, "pen, row, column (of its CELL), stiff", this::itself);
        b.test(5, "way, force (of this DAY)", this::wind);
        b.test(5, "next (FORCE of the DAY behind it), day.", this::next);
        b.test(5, "ink (STROKES of its own there are)", this::ink);
        b.test(5, "here (1 if there is a STROKE in its CELL, else 0), mine (1 if that is its own, else 0)", this::here);
        b.test(5, "mark (1 if its CELL is one of the MARK, else 0)", this::mark);
    }

    private void faults() {
        b.test(5, "FAULTS, the first along the text, 1 + 8 * its place and:", this::firstFault);
        b.test(5, "0 a byte or WORD that can't stand there", this::cantStand);
        b.test(5, "or the end (behind the last byte)", this::theEnd);
        b.test(5, "1 a NUMBER of more digits, or not as told", this::moreDigits);
        b.test(5, "2 too deep (at the sign that opens, or the word not)", this::tooDeep);
        b.test(5, "3 one VALUE or FACT too many (at its first byte; of a FACT at its SIGN)", this::oneTooMany);
        b.test(5, "4 one CLAUSE too many", this::clauseTooMany);
        b.test(5, "Of one place the least.", this::theLeast);
    }

    private void good(String text) {
        b.due(text, 0, Texts.rule(new SkySpire(), text));
    }

    private void fault(String text, int place, int kind) {
        SkySpire x = new SkySpire();
        b.due(text, Texts.fault(place, kind), Texts.rule(x, text));
        b.due(text + ": RULES", 0, x.count(4));
    }

    /** Whether a PEN WRITES by a RULE with this TEST. */
    private void holds(boolean want, String test) {
        b.due(test, want ? 1 : 0, Bounds.by("sky 2 9;pen 0 9", "write 1 if " + test).day());
    }

    /** Whether a PEN WRITES by this RULE. */
    private void writes(boolean want, String rule) {
        b.due(rule, want ? 1 : 0, Bounds.by("sky 2 9;pen 0 9", rule).day());
    }

    private static String times(String text, int n) {
        return text.repeat(n);
    }

    /** That many VALUES. */
    private static String ones(int n) {
        return "1" + times("+1", n - 1);
    }

    // ---- how much

    private void rules() {
        SkySpire x = Bounds.told("sky 2 9;pen 0 9;pen 1 9;pen 2 9;pen 3 9;pen 0 9");
        for (int i = 0; i < 6; i++) {
            b.due("RULE", i, Texts.rule(x, i == 5 ? "write 1 if pen=0 or pen=4" : "write 1 if pen=" + i));
            b.due("RULES", i + 1, x.count(4));
        }
        b.due("a seventh", -1, Texts.rule(x, "write 1"));
        b.due("RULES", 6, x.count(4));
        for (int i = 0; i < 6; i++) {
            x.force(i);
            b.due("by RULE " + i, i == 5 ? 17 : 1 << i, x.day());
        }
    }

    private void clauses() {
        good("write 1");
        good("write 1" + times(";write 1", 11));
        fault("write 1" + times(";write 1", 12), 8 + 11 * 8, 4);
        good("write 1" + times(" ", 393));
        good(times(" ", 393) + "write 1");
        fault("write" + times(" ", 395), 400, 0);
        fault(times("[", 400), 0, 0);
        writes(true, times("write 0 if 1=2;", 11) + "write 1");
        writes(false, times("write 1 if 1=2;", 11) + "write 0");
    }

    private void deep() {
        for (int nots = 0; nots <= 10; nots++) {
            String opened = times("not ", nots) + times("[", 10 - nots);
            String closed = times("]", 10 - nots);
            good("write 1 if " + opened + "1=1" + closed);
            holds(nots % 2 == 0, opened + "1=1" + closed);
            fault("write 1 if " + opened + "[1=1]" + closed, 11 + opened.length(), 2);
            fault("write 1 if " + opened + "not 1=1" + closed, 11 + opened.length(), 2);
        }
        good("write 1 if 1=1" + times(" and [1=1]", 13));
        good("write 1 if not 1=1" + times(" or not 1=1", 13));
        good("write 1 if [[[[[[[[[[1=1]]]]]]]]]] or [[[[[[[[[[1=1]]]]]]]]]];write 1 if [[[[[[[[[[1=1]]]]]]]]]]");
        good("write 1 if [[[[[[[[[[1=1] and [1=1]]]]]]]]]]");
        good("write 1 if not [not [not [not [not [1=1]]]]]");
        fault("write 1 if not [not [not [not [not [not 1=1]]]]]", 36, 2);
        // As much at once as 60 VALUES and FACTS can keep open.
        String open = times("1=2 or 1=1 and [", 9);
        holds(true, open + "1=0+1*1" + times("]", 9));
        holds(false, open + "1=0+1*2" + times("]", 9));
        fault("write 1 if " + open + "1=0+1*1*1" + times("]", 9), 11 + 144 + 8, 3);
    }

    private void values() {
        good("write " + ones(60));
        fault("write " + ones(61), 6 + 120, 3);
        good("write " + ones(57) + " if 1=1");
        fault("write " + ones(58) + " if 1=1", 6 + 115 + 4 + 2, 3);
        good(times("write 1 if 1=1;", 11) + "write " + ones(16));
        fault(times("write 1 if 1=1;", 11) + "write " + ones(17), 165 + 6 + 32, 3);
        good(times("write 1;", 11) + "write " + ones(49));
        fault(times("write 1;", 11) + "write " + ones(50), 88 + 6 + 98, 3);
        good("write day" + times("*day", 59));
        fault("write day" + times("*day", 60), 6 + 240, 3);
        good("write " + ones(53) + " if not 1=1 and [[[1=1]]];write 1");
        SkySpire x = new SkySpire();
        b.due("one RULE", 0, Texts.rule(x, "write " + ones(60)));
        b.due("of another as many", 1, Texts.rule(x, "write " + ones(60)));
        b.due("too many", Texts.fault(126, 3), Texts.rule(x, "write " + ones(61)));
        b.due("behind a FAULT as many", 2, Texts.rule(x, "write " + ones(60)));
    }

    private void digits() {
        good("write 0");
        good("write 00000");
        good("write 99999");
        fault("write 100000", 6, 1);
        fault("write 000000", 6, 1);
        holds(true, "99999+1=50000*2");
        holds(true, "00007=7");
        fault("write 1 2", 8, 0);
        holds(true, "12=3*4");
        fault("write :", 6, 0);
        fault("write 1:", 7, 0);
        fault("write /", 6, 0);
    }

    private void words() {
        good("write1if day=day");
        good("write 1if1=1and1=1or1=1");
        fault("writes 1", 0, 0);
        fault("writ 1", 0, 0);
        fault("write days", 6, 0);
        fault("write da", 6, 0);
        fault("write dayif 1=1", 6, 0);
        fault("write 1 ifnot 1=1", 8, 0);
        fault("write daya", 6, 0);
        fault("write dayz", 6, 0);
        fault("write day`", 9, 0);
        fault("write day{", 9, 0);
        fault("write dAy", 6, 0);
        fault("write dayA", 9, 0);
    }

    private void blanks() {
        good("   write   1   if   1   <=   1   ;   write   1   ");
        good("write1+day*2;write 1if1<=1");
        fault("write" + (char) 31 + "1", 5, 0);
        fault("write" + (char) 33 + "1", 5, 0);
        fault("write\t1", 5, 0);
        fault("wr ite 1", 0, 0);
        fault("write 1 0", 8, 0);
        fault("write 1 if 1< =1", 14, 0);
        fault("write 1 if 1> =1", 14, 0);
        fault("write 1 i f 1=1", 8, 0);
    }

    // ---- parts

    private void ifOrNot() {
        writes(true, "write 1");
        writes(true, "write 1 if 1=1");
        writes(false, "write 1 if 1=2");
        writes(false, "write 0 if 1=1;write 1");
        writes(true, "write 0 if 1=2;write 1");
        writes(false, "write 0;write 1");
        fault("write", 5, 0);
        fault("write if 1=1", 6, 0);
        fault("write 1 if", 10, 0);
        fault("write 1 if 1=1 if 1=1", 15, 0);
    }

    private void or() {
        holds(true, "1=1");
        holds(true, "1=2 or 1=1");
        holds(true, "1=2 or 1=2 or 1=1");
        holds(false, "1=2 or 1=2");
        holds(true, "1=1 or 1=1 and 1=2");
        holds(true, "1=2 and 1=1 or 1=1");
        fault("write 1 if or 1=1", 11, 0);
        fault("write 1 if 1=1 or", 17, 0);
    }

    private void and() {
        holds(true, "1=1 and 1=1");
        holds(false, "1=1 and 1=2");
        holds(false, "1=2 and 1=1");
        holds(false, "1=1 and 1=1 and 1=2");
        fault("write 1 if and 1=1", 11, 0);
        fault("write 1 if 1=1 and", 18, 0);
    }

    private void facts() {
        holds(true, "not 1=2");
        holds(false, "not 1=1");
        holds(true, "not not 1=1");
        holds(false, "not 1=2 and 1=2");
        holds(true, "not [1=1 and 1=2]");
        holds(false, "[1=1 or 1=1] and 1=2");
        fault("write 1 if 1", 12, 0);
        fault("write 1 if []", 12, 0);
        fault("write 1 if [1=1", 15, 0);
        fault("write 1 if 1=1]", 14, 0);
        fault("write 1 if [1=1]]", 16, 0);
        fault("write 1 if [1]=1", 13, 0);
        fault("write [1]", 6, 0);
        fault("write not 1", 6, 0);
    }

    private void signs() {
        String[] signs = {"<", "<=", "=", ">=", ">"};
        for (int i = 0; i < signs.length; i++) {
            holds(i < 2, "4" + signs[i] + "5");
            holds(i > 0 && i < 4, "5" + signs[i] + "5");
            holds(i > 2, "6" + signs[i] + "5");
            holds(i >= 2, "not 4" + signs[i] + "5");
            holds(i == 0 || i == 4, "not 5" + signs[i] + "5");
            holds(i <= 2, "not 6" + signs[i] + "5");
            holds(i < 2, "1=1 and 4" + signs[i] + "5");
            holds(i > 2, "1=1 and 6" + signs[i] + "5");
        }
        fault("write 1 if 1==1", 13, 0);
        fault("write 1 if 1=<1", 13, 0);
        fault("write 1 if 1=>1", 13, 0);
        fault("write 1 if 1<>1", 13, 0);
        fault("write 1 if 1<==1", 14, 0);
        fault("write 1 if 1!1", 12, 0);
        fault("write 1 if 1=1=1", 14, 0);
    }

    // ---- sums

    private void order() {
        holds(true, "2+3*4=14");
        holds(true, "2*3+4=10");
        holds(true, "9-3-2=4");
        holds(true, "9-3+2=8");
        holds(true, "24/4*2=12");
        holds(true, "24/4/2=3");
        holds(true, "7%4*3=9");
        holds(true, "1-2=0-1");
        fault("write +1", 6, 0);
        fault("write 1+", 8, 0);
        fault("write 1++1", 8, 0);
        fault("write 1*-1", 8, 0);
    }

    private void parted() {
        holds(true, "6/7=0 and 7/7=1 and 13/7=1 and 14/7=2");
        holds(true, "6%7=6 and 7%7=0 and 13%7=6 and 14%7=0");
        holds(true, "7/0=0 and 7%0=0 and 0/0=0 and 0%0=0");
        holds(true, "7/1=7 and 7%1=0 and 0/7=0 and 0%7=0");
        // 2 to the 63rd is 9223372036854775808, a third of it 3074457345618258602 and 2 thirds.
        holds(true, LEAST + "/3%10=0-2");
        holds(true, LEAST + "%3=0-2");
        holds(true, LEAST + "/0=0");
        holds(true, LEAST + "%0=0");
    }

    private void round() {
        writes(true, "write " + LEAST + "-1");
        writes(false, "write " + LEAST);
        holds(true, LEAST + "<0");
        holds(true, LEAST + "-1>0");
        holds(true, LEAST + "-1+1=" + LEAST);
        holds(true, LEAST + "*2=0");
        holds(true, "0-" + LEAST + "=" + LEAST);
        holds(true, "65536*65536*65536*65536+7=7");
        holds(true, "65536*32768>0");
    }

    // ---- words of a PEN

    private void itself() {
        String sky = "sky 6 9;pen 0 0;pen 5 9;pen 6 4;pen 35 9;pen 35 0";
        b.due("pen 0", 1, Bounds.by(sky, "write 1 if pen=0").day());
        b.due("pen 4", 16, Bounds.by(sky, "write 1 if pen=4").day());
        b.due("row 0", 3, Bounds.by(sky, "write 1 if row=0").day());
        b.due("row 5", 24, Bounds.by(sky, "write 1 if row=5").day());
        b.due("column 0", 5, Bounds.by(sky, "write 1 if column=0").day());
        b.due("column 5", 26, Bounds.by(sky, "write 1 if column=5").day());
        b.due("stiff 0", 17, Bounds.by(sky, "write 1 if stiff=0").day());
        b.due("stiff 9", 10, Bounds.by(sky, "write 1 if stiff=9").day());
        SkySpire x = Bounds.by(sky, "write 1 if stiff=9");
        x.bend(0, 9);
        b.due("stiff 9, bent", 11, x.day());
    }

    private void wind() {
        SkySpire x = Bounds.by("sky 2 9;pen 0 9;wind 3 7;wind 1 2", "write 1 if way=3 and force=7");
        b.due("DAY 0", 1, x.day());
        b.due("DAY 1", 0, x.day());
        b.due("DAY 2, come round", 1, x.day());
        x = Bounds.by("sky 2 9;pen 0 9;wind 3 7;wind 1 2", "write 1 if way=1 and force=2");
        b.due("DAY 0", 0, x.day());
        b.due("DAY 1", 1, x.day());
    }

    private void next() {
        SkySpire x = Bounds.by("sky 2 9;pen 0 9;wind 0 3;wind 0 5;wind 0 8", "write 1 if next=5 and day=0");
        b.due("DAY 0", 1, x.day());
        Texts.rule(x, "write 1 if next=8 and day=1");
        x.force(1);
        b.due("DAY 1", 1, x.day());
        Texts.rule(x, "write 1 if next=3 and day=2");
        x.force(2);
        b.due("DAY 2: the first comes round", 1, x.day());
        x = Bounds.by("sky 2 9;pen 0 9;wind 0 4", "write 1 if next=4");
        b.due("of one wind", 1, x.day());
    }

    private void ink() {
        SkySpire x = Bounds.by("sky 2 9;pen 0 0;pen 3 9;wind 1 0", "write 1 if ink=0");
        b.due("none", 3, x.day());
        b.due("one", 0, x.day());
        x.blot(1);
        b.due("BLOTTED", 1, x.day());
        x = Bounds.by("sky 2 1;pen 0 9", "write 1 if ink=0");
        b.due("none", 1, x.day());
        b.due("there yet", 0, x.day());
        b.due("faded", 1, x.day());
        x = Bounds.told("sky 3 60;pen 0 0;pen 8 9;wind 1 0");
        x.day();
        x.day();
        Texts.rule(x, "write 1 if ink=2");
        Texts.rule(x, "write 1 if ink=1");
        x.force(0);
        b.due("two", 1, x.day());
        x.undo();
        x.force(1);
        b.due("one in the same CELL", 2, x.day());
    }

    private void here() {
        SkySpire x = Bounds.told("sky 2 9;pen 0 9;pen 1 9;pen 2 9");
        x.stay(2);
        x.day();
        x.set(0, 1);
        x.stay(2);
        Texts.rule(x, "write here");
        Texts.rule(x, "write mine");
        Texts.rule(x, "write 1 if here=1");
        Texts.rule(x, "write 1 if mine=1");
        for (int rule = 0; rule < 4; rule++) {
            x.force(rule);
            b.due("by RULE " + rule, rule % 2 == 0 ? 3 : 2, x.day());
            x.undo();
        }
        x.force(Texts.rule(x, "write 1 if here=0"));
        b.due("not here", 4, x.day());
        x.undo();
        x.force(Texts.rule(x, "write 1 if mine=0"));
        b.due("not mine", 5, x.day());
        x.undo();
        x.blot(1);
        x.force(0);
        b.due("BLOTTED", 0, x.day());
    }

    private void mark() {
        String sky = "sky 2 9;pen 0 9;pen 3 9;pen 1 9;mark 0;mark 3;mark 3";
        b.due("1", 3, Bounds.by(sky, "write 1 if mark=1").day());
        b.due("0", 4, Bounds.by(sky, "write 1 if mark=0").day());
    }

    // ---- faults

    private void firstFault() {
        fault("x", 0, 0);
        fault(" x", 1, 0);
        fault("write 100000 if [", 6, 1);
        fault("write 1 if " + times("[", 11) + "100000", 21, 2);
        fault("write " + ones(61) + ";x", 126, 3);
        fault("write 1" + times(";write 1", 12) + "+", 96, 4);
        fault("write " + ones(60) + ";write", 131, 0);
    }

    private void cantStand() {
        fault(";", 0, 0);
        fault("1", 0, 0);
        fault("sky 2 1", 0, 0);
        fault("write;", 5, 0);
        fault("write sky", 6, 0);
        fault("write wind", 6, 0);
        fault("write write", 6, 0);
        fault("write if", 6, 0);
        fault("write 1 write 1", 8, 0);
        fault("write 1;;write 1", 8, 0);
        fault("write 1;pen 0 0", 8, 0);
        fault("write 1,", 7, 0);
        fault("write 1=1", 7, 0);
        fault("write 1 and 1", 8, 0);
        fault("write 1 if write", 11, 0);
        fault("write 1 if 1=1 1", 15, 0);
        fault("write 1 if [1=1;", 15, 0);
        fault("write 1 if not;", 14, 0);
        fault("write 1" + (char) 255, 7, 0);
        fault("write " + (char) 255, 6, 0);
        fault("write 1" + (char) 0, 7, 0);
    }

    private void theEnd() {
        fault("", 0, 0);
        fault("  ", 2, 0);
        fault("write", 5, 0);
        fault("write ", 6, 0);
        fault("write 1*", 8, 0);
        fault("write 1;", 8, 0);
        fault("write 1 if", 10, 0);
        fault("write 1 if 1", 12, 0);
        fault("write 1 if 1<", 13, 0);
        fault("write 1 if 1<=", 14, 0);
        fault("write 1 if not", 14, 0);
        fault("write 1 if [", 12, 0);
        fault("write 1 if [1=1 ", 16, 0);
    }

    private void moreDigits() {
        good("write 99999*99999");
        fault("write 1*100000", 8, 1);
        fault("write 1 if 123456=1", 11, 1);
        fault("write 1 if 1=123456", 13, 1);
        fault("write 1 123456", 8, 0);
    }

    private void tooDeep() {
        fault("write 1 if " + times("[", 11), 21, 2);
        fault("write 1 if " + times("[", 10) + "  [", 23, 2);
        fault("write 1 if " + times("[", 10), 21, 0);
        fault("write 1 if " + times("not ", 11), 51, 2);
        fault("write 1 if " + times("not ", 10) + "  not", 53, 2);
        fault("write 1 if " + times("not ", 10), 51, 0);
        fault("write 1 if " + times("not ", 10) + "nots", 51, 0);
        fault("write 1 if " + times("[not ", 5) + "[", 36, 2);
    }

    private void oneTooMany() {
        fault("write " + ones(60) + "+  day", 128, 3);
        fault("write " + ones(60) + ";write  99999", 133, 3);
        fault("write " + ones(60) + " if 1=1", 129, 3);
        fault("write " + ones(59) + " if  1  <=1", 131, 3);
        fault("write " + ones(58) + " if 1<=  day", 130, 3);
        good("write " + ones(57) + " if 1<=  day");
        fault("write " + ones(57) + " if 1<=day+1", 130, 3);
        fault("write " + ones(56) + " if 1=1 and 1=1", 130, 3);
    }

    private void clauseTooMany() {
        fault("write 1" + times(";write 1", 11) + ";  write", 98, 4);
        fault("write 1" + times(";write 1", 11) + ";write", 96, 4);
        fault("write 1" + times(";write 1", 10) + ";write", 93, 0);
    }

    private void theLeast() {
        fault("write " + ones(60) + "+100000", 126, 1);
        fault("write " + ones(60) + "+days", 126, 0);
        fault("write " + ones(60) + "+;", 126, 0);
        fault("write " + ones(60) + "+", 126, 0);
        fault("write " + ones(59) + " if 1;", 128, 0);
        fault("write 1" + times(";write 1", 11) + ";writes", 96, 0);
        fault("write 1" + times(";write 1", 11) + ";", 96, 0);
    }

    // ---- its number, and which is IN FORCE

    private void itsNumber() {
        SkySpire x = new SkySpire();
        b.due("the first", 0, Texts.rule(x, "write 0"));
        b.due("the TAPE", 0, x.count(14));
        b.due("an empty TAPE", Texts.fault(0, 0), x.rule());
        b.due("a FAULT", Texts.fault(5, 0), Texts.rule(x, "write"));
        b.due("the TAPE", 0, x.count(14));
        b.due("RULES", 1, x.count(4));
        b.due("the second", 1, Texts.rule(x, "write 1"));
        b.due("none IN FORCE by that", -1, x.count(5));
        for (String text : new String[] {"", "write", "write 100000"}) {
            SkySpire wrong = Bounds.busy();
            SkySpire same = Bounds.busy();
            same.end(0);
            Texts.rule(wrong, text);
            b.alike("a FAULT of " + text, same, wrong);
        }
    }

    private static SkySpire six() {
        SkySpire x = Bounds.told("sky 2 9;pen 0 9;pen 1 9");
        for (int i = 0; i < 6; i++) {
            Texts.rule(x, "write pen-" + i % 2);
        }
        x.force(5);
        x.day();
        Texts.tape(x, "write 1");
        return x;
    }

    private void thereAre6() {
        b.refused("a seventh", RuleBounds::six, SkySpire::rule, -1);
        b.refused("a wrong seventh", () -> emptied(six()), SkySpire::rule, -1);
        SkySpire x = six();
        Texts.tape(x, "sky 2 9;pen 0 9");
        b.due("a SKY", -1, x.rule());
        b.due("is on the TAPE yet", 15, x.count(14));
        b.due("and can be read", 1, x.sky());
        b.due("RULES", 6, x.count(4));
    }

    private static SkySpire emptied(SkySpire x) {
        x.end(0);
        return x;
    }

    private void whichWas() {
        SkySpire x = six();
        b.due("5 was", 5, x.force(0));
        b.due("0 was", 0, x.force(-1));
        b.due("none was", -1, x.force(-1));
        b.due("none was", -1, x.force(5));
        b.due("5 was", 5, x.force(5));
        b.due("5 is", 5, x.count(5));
        b.due("without a SKY", -1, new SkySpire().force(-1));
    }

    private void noneSuch() {
        b.refusedOutside(-1, 1, -2, SkySpire::force);
        b.refused("6 of 6", RuleBounds::six, x -> x.force(6), -2);
        SkySpire x = new SkySpire();
        b.due("0 of none", -2, x.force(0));
        Texts.rule(x, "write 1");
        b.due("0 of one", -1, x.force(0));
        b.due("1 of one", -2, x.force(1));
        b.due("0 is", 0, x.count(5));
    }
}
