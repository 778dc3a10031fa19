/** Promises 1 to 4: a new object, the TAPE, a SKY. */
final class SkyBounds {
    private final Bounds b;

    private SkyBounds(Bounds b) {
        this.b = b;
    }

    static void run(Bounds b) {
        SkyBounds s = new SkyBounds(b);
        b.test(1, "No SKY, no RULES, none IN FORCE.", s::nothingAtFirst);
        b.test(1, "`NONE = -1`: None.", () -> b.due("NONE", -1, SkySpire.NONE));
        b.test(1, "An object is used for at most 512 calls after it has been made", s::lastCall);
        s.tape();
        s.amounts();
        s.begin();
        s.faults();
        b.test(4, "The TAPE, which is empty then, is the SKY in place of the one there was", s::inPlace);
        b.test(4, "(no NOTES, nothing to be UNDONE; the RULE IN FORCE and x stay)", s::whatStays);
        b.test(4, "-2 - its FAULT, and all stays", s::allStays);
    }

    private void tape() {
        b.test(2, "Twenty bytes come behind the TAPE, of each number the highest first: how many it has", this::twenty);
        b.test(2, "NONE, and none comes, if it would have more than 400.", this::atMost400);
        b.test(3, "The TAPE has its first n bytes alone: n", this::firstBytes);
        b.test(3, "NONE, and nothing happens, if it has not so many, or n is below 0.", this::notSoMany);
    }

    private void amounts() {
        b.test(4, "A SKY is a text of at most 400 bytes", this::of400Bytes);
        b.test(4, "CLAUSE { ; CLAUSE }, 40 at most", this::clauses);
        b.test(4, "SIDE 2 to 6", this::side);
        b.test(4, "FADES 1 to 60", this::fades);
        b.test(4, "once, the first CLAUSE", this::skyOnceAndFirst);
        b.test(4, "a CELL, 0 to SIDE * SIDE - 1", this::cells);
        b.test(4, "STIFF 0 to 9", this::stiff);
        b.test(4, "WAY 0 to 3", this::way);
        b.test(4, "FORCE 0 to 9", this::force);
        b.test(4, "of the next day that comes round, 12 at most", this::winds);
        b.test(4, "a CELL of the MARK; told already: nothing new", this::mark);
        b.test(4, "PENS 0 to 4, in the order told; several may be in one CELL.", this::pens);
    }

    private void begin() {
        b.test(4, "CELLS lie in SIDE rows of SIDE, by numbers.", this::rows);
        b.test(4, "It is DAY 0; there is no STROKE, no PEN is STAYED, there was no CLAP", this::asTold);
        b.test(4, "without winds each day has WAY 0, FORCE 0.", this::withoutWinds);
    }

    private void faults() {
        b.test(4, "NUMBER (1 to 5 digits, as far as digits go on)", this::digits);
        b.test(4, "WORDS (small letters, as far as these go on)", this::words);
        b.test(4, "Blanks (32) stand between as one likes.", this::blanks);
        b.test(4, "FAULTS, the first along the text, 1 + 8 * its place and:", this::firstFault);
        b.test(4, "0 a byte or WORD that can't stand there", this::cantStand);
        b.test(4, "or the end (behind the last byte)", this::theEnd);
        b.test(4, "1 a NUMBER of more digits, or not as told", this::notAsTold);
        b.test(4, "4 one CLAUSE too many, a second sky, another CLAUSE ahead of it, a sixth PEN, a thirteenth wind "
            + "(at its first byte).", this::tooMany);
        b.test(4, "Of one place the least.", this::theLeast);
    }

    private void good(String text, int pens) {
        b.due(text, pens, Texts.sky(new SkySpire(), text));
    }

    private void fault(String text, int place, int kind) {
        b.due(text, Texts.fault(place, kind), Texts.sky(new SkySpire(), text));
    }

    private static String times(String text, int n) {
        return text.repeat(n);
    }

    // ---- promise 1

    private void nothingAtFirst() {
        SkySpire x = new SkySpire();
        for (int what = 0; what <= 14; what++) {
            b.due("count " + what, what == 5 ? -1 : 0, x.count(what));
        }
        b.due("no SKY", -1, x.sign());
        b.due("no PEN", -1, x.pen(0, 0));
        b.due("no CELL", -2, x.cell(0, 0));
        b.due("no RULE", -2, x.force(0));
        b.due("none IN FORCE", -1, x.force(-1));
        b.due("no ACT", -2, x.undo());
        b.due("no IMAGE", -1, x.back(0));
    }

    private void lastCall() {
        SkySpire x = new SkySpire();
        x.feed(0x736b7920, 0x32203630, 0x3b70656e, 0x20332039, 0x3b6d6172);
        x.feed(0x6b203320, 0, 0, 0, 0);
        x.end(23);
        b.due("sky 2 60;pen 3 9;mark 3, call 4", 1, x.sky());
        for (int call = 5; call < 512; call++) {
            x.day();
        }
        b.due("SIGN, call 512", 507, x.sign());
    }

    // ---- promises 2 and 3

    private void twenty() {
        SkySpire x = new SkySpire();
        b.due("the first", 20, x.feed(0x736b7920, 0x3320373b, 0x6d61726b, 0x20383b70, 0x656e2037));
        b.due("behind these", 40, x.feed(0x20390000, 0, 0, 0, 0));
        b.due("sky 3 7;mark 8;pen 7 9", 22, x.end(22));
        b.due("is read", 1, x.sky());
        b.due("SIDE", 3, x.count(0));
        b.due("FADES", 7, x.count(1));
        b.due("the MARK", 1, x.cell(8, 2));
        b.due("CELL", 7, x.pen(0, 0));
        b.due("STIFF", 9, x.pen(0, 1));
        x.feed(0x736b7920, 0x32203180, 0, 0, 0);
        x.end(8);
        b.due("byte 128 in the lowest place", Texts.fault(7, 0), x.sky());
        x.feed(0xff6b7920, 0, 0, 0, 0);
        b.due("byte 255 in the highest place", Texts.fault(0, 0), x.sky());
        x.feed(0, 0, 0, 0, 0);
        b.due("byte 0", Texts.fault(0, 0), x.sky());
    }

    private void atMost400() {
        SkySpire x = new SkySpire();
        for (int i = 1; i <= 19; i++) {
            b.due("the " + i + ".", 20 * i, x.feed(0, 0, 0, 0, 0));
        }
        b.due("of 380", 400, x.feed(0, 0, 0, 0, 0));
        b.due("of 400", -1, x.feed(0, 0, 0, 0, 0));
        for (int length : new int[] {399, 390, 381}) {
            x.end(length);
            b.due("of " + length, -1, x.feed(0, 0, 0, 0, 0));
            b.due("none came", length, x.count(14));
        }
        x.end(380);
        b.due("of 380 again", 400, x.feed(0, 0, 0, 0, 0));
        Texts.tape(x, times(" ", 374) + "sky 2 1");
        b.due("of a text of 381", -1, x.feed(-1, -1, -1, -1, -1));
        b.due("its bytes stay", 0, x.sky());
        b.due("of none", 20, x.feed(0, 0, 0, 0, 0));
        b.refused("a busy one", () -> fullTape(), full -> full.feed(1, 2, 3, 4, 5), -1);
    }

    private static SkySpire fullTape() {
        SkySpire x = Bounds.busy();
        Texts.tape(x, "sky 2 1;pen 3 3" + times(" ", 370));
        return x;
    }

    private void firstBytes() {
        SkySpire x = new SkySpire();
        b.due("0 of none", 0, x.end(0));
        Texts.tape(x, "sky 2 1;pen 0 0;pen 3 3");
        b.due("all 23", 23, x.end(23));
        b.due("22", 22, x.end(22));
        b.due("23 are no more", -1, x.end(23));
        b.due("15", 15, x.end(15));
        b.due("its bytes", 15, x.count(14));
        b.due("these alone", 1, x.sky());
        x.feed(0, 0, 0, 0, 0);
        b.due("1", 1, x.end(1));
        b.due("0", 0, x.end(0));
        b.due("empty", 0, x.count(14));
        b.due("behind them", 20, x.feed(0, 0, 0, 0, 0));
        Texts.tape(x, "sky 2 60");
        x.end(7);
        b.due("a NUMBER cut short", 0, x.sky());
        b.due("FADES 6", 6, x.count(1));
        Texts.tape(x, "sky 2 6;marks 0");
        x.end(12);
        b.due("a WORD cut short", Texts.fault(12, 0), x.sky());
    }

    private void notSoMany() {
        SkySpire x = new SkySpire();
        b.due("1 of none", -1, x.end(1));
        x.feed(0, 0, 0, 0, 0);
        b.due("21 of 20", -1, x.end(21));
        b.due("20 of 20", 20, x.end(20));
        for (int i = 0; i < 19; i++) {
            x.feed(0, 0, 0, 0, 0);
        }
        b.due("401 of 400", -1, x.end(401));
        b.due("400 of 400", 400, x.end(400));
        b.refusedOutside(0, 13, -1, SkySpire::end);
    }

    // ---- promise 4: how much

    private void of400Bytes() {
        good("sky 2 1" + times(" ", 393), 0);
        good(times(" ", 393) + "sky 2 1", 0);
        fault("sky 2" + times(" ", 395), 400, 0);
        fault("sky 2 1" + times(" ", 392) + ";", 400, 0);
        fault("sky 2 1" + times(" ", 392) + "1", 399, 0);
        fault(times(";", 400), 0, 0);
        fault("sky 2 1" + times(";", 393), 8, 0);
        SkySpire x = new SkySpire();
        Texts.tape(x, "sky 2 1" + times(" ", 393));
        b.due("a byte beyond does not come", -1, x.feed(0, 0, 0, 0, 0));
    }

    private void clauses() {
        good("sky 2 1", 0);
        good("sky 2 1" + times(";mark 0", 39), 0);
        fault("sky 2 1" + times(";mark 0", 40), 8 + 39 * 7, 4);
        good("sky 2 1" + times(";mark 0", 34) + times(";pen 0 0", 5), 5);
        fault("sky 2 1" + times(";mark 0", 34) + times(";pen 0 0", 5) + ";wind 0 0", 8 + 34 * 7 + 5 * 8, 4);
    }

    private void side() {
        fault("sky 0 1", 4, 1);
        fault("sky 1 1", 4, 1);
        good("sky 2 1", 0);
        good("sky 6 1", 0);
        fault("sky 7 1", 4, 1);
        fault("sky 99999 1", 4, 1);
        b.due("2", 2, Bounds.told("sky 2 1").count(0));
        b.due("6", 6, Bounds.told("sky 6 1").count(0));
    }

    private void fades() {
        fault("sky 2 0", 6, 1);
        good("sky 2 1", 0);
        good("sky 2 60", 0);
        fault("sky 2 61", 6, 1);
        b.due("1", 1, Bounds.told("sky 2 1").count(1));
        b.due("60", 60, Bounds.told("sky 2 60").count(1));
    }

    private void skyOnceAndFirst() {
        good("sky 2 1;mark 0", 0);
        fault("sky 2 1;sky 2 1", 8, 4);
        fault("sky 2 1;mark 0;sky 2 1", 15, 4);
        fault("mark 0;sky 2 1", 0, 4);
        fault("pen 0 0;sky 2 1", 0, 4);
        fault("wind 0 0;sky 2 1", 0, 4);
    }

    private void cells() {
        for (int side = 2; side <= 6; side++) {
            String sky = "sky " + side + " 1;pen ";
            good(sky + "0 0", 1);
            good(sky + (side * side - 1) + " 0", 1);
            fault(sky + side * side + " 0", 12, 1);
            SkySpire x = Bounds.told(sky + (side * side - 1) + " 0");
            b.due("the last CELL of SIDE " + side, side * side - 1, x.pen(0, 0));
            b.due("is there", 0, x.cell(side * side - 1, 2));
            b.due("none behind it", -2, x.cell(side * side, 2));
        }
    }

    private void stiff() {
        good("sky 2 1;pen 0 0", 1);
        good("sky 2 1;pen 0 9", 1);
        fault("sky 2 1;pen 0 10", 14, 1);
        b.due("0", 0, Bounds.told("sky 2 1;pen 0 0").pen(0, 1));
        b.due("9", 9, Bounds.told("sky 2 1;pen 0 9").pen(0, 1));
    }

    private void way() {
        good("sky 2 1;wind 0 0", 0);
        good("sky 2 1;wind 3 0", 0);
        fault("sky 2 1;wind 4 0", 13, 1);
        b.due("3", 1, Bounds.by("sky 2 1;pen 0 9;wind 3 0", "write 1 if way=3").day());
        b.due("0", 1, Bounds.by("sky 2 1;pen 0 9;wind 0 0", "write 1 if way=0").day());
    }

    private void force() {
        good("sky 2 1;wind 0 9", 0);
        fault("sky 2 1;wind 0 10", 15, 1);
        b.due("9", 1, Bounds.by("sky 2 1;pen 0 9;wind 0 9", "write 1 if force=9").day());
        b.due("0", 1, Bounds.by("sky 2 1;pen 0 9;wind 0 0", "write 1 if force=0").day());
    }

    private void winds() {
        b.due("none", 0, Bounds.told("sky 2 1").count(3));
        b.due("one", 1, Bounds.told("sky 2 1;wind 0 0").count(3));
        good("sky 2 1" + times(";wind 0 0", 12), 0);
        b.due("12", 12, Bounds.told("sky 2 1" + times(";wind 0 0", 12)).count(3));
        fault("sky 2 1" + times(";wind 0 0", 13), 8 + 12 * 9, 4);
    }

    private void mark() {
        good("sky 2 1;mark 0", 0);
        good("sky 2 1;mark 3", 0);
        fault("sky 2 1;mark 4", 13, 1);
        good("sky 6 1;mark 35", 0);
        fault("sky 6 1;mark 36", 13, 1);
        SkySpire once = Bounds.told("sky 2 1;mark 3");
        SkySpire twice = Bounds.told("sky 2 1;mark 3;mark 3;mark 3");
        b.due("once", 1, once.cell(3, 2));
        b.due("again", 1, twice.cell(3, 2));
        b.due("LIKE once", 3, once.count(8));
        b.due("LIKE again", 3, twice.count(8));
        b.due("no other", 0, twice.cell(2, 2));
        b.due("none", 4, Bounds.told("sky 2 1").count(8));
        b.due("all", 0, Bounds.told("sky 2 1;mark 0;mark 1;mark 2;mark 3").count(8));
    }

    private void pens() {
        good("sky 2 1", 0);
        good("sky 2 1" + times(";pen 3 0", 5), 5);
        fault("sky 2 1" + times(";pen 3 0", 6), 8 + 5 * 8, 4);
        SkySpire x = Bounds.told("sky 3 1;pen 8 4;pen 0 3;pen 8 2;pen 1 1;pen 8 0");
        int[] cell = {8, 0, 8, 1, 8};
        for (int pen = 0; pen < 5; pen++) {
            b.due("CELL of PEN " + pen, cell[pen], x.pen(pen, 0));
            b.due("STIFF of PEN " + pen, 4 - pen, x.pen(pen, 1));
        }
        b.due("no PEN 5", -1, x.pen(5, 0));
    }

    // ---- promise 4: how it begins

    private void rows() {
        for (int side = 2; side <= 6; side++) {
            String sky = "sky " + side + " 1;pen " + (side - 1) + " 9;pen " + side + " 9;pen " + (side * side - 1) + " 9";
            b.due("the last of the first row", 1, Bounds.by(sky, "write 1 if row=0").day());
            b.due("the first of the second row", 2, Bounds.by(sky, "write 1 if row>0 and column=0").day());
            b.due("the last of all", 4, Bounds.by(sky, "write 1 if row=" + (side - 1) + " and column=" + (side - 1)).day());
        }
    }

    private void asTold() {
        SkySpire x = Bounds.busy();
        b.due("another", 2, Texts.sky(x, "sky 2 3;pen 0 9;pen 1 9;mark 2"));
        b.due("DAY", 0, x.count(6));
        b.due("STROKES", 0, x.count(7));
        b.due("LIKE", 3, x.count(8));
        b.due("CLAPS", 0, x.count(9));
        b.due("STAYED", 0, x.count(10));
        for (int cell = 0; cell < 4; cell++) {
            b.due("whose in " + cell, -1, x.cell(cell, 0));
            b.due("since when in " + cell, -1, x.cell(cell, 1));
        }
    }

    private void withoutWinds() {
        SkySpire x = Bounds.told("sky 3 9;pen 7 0;pen 8 1");
        x.day();
        b.due("STIFF 0 goes by WAY 0", 4, x.pen(0, 0));
        b.due("STIFF 1 stays", 8, x.pen(1, 0));
        x.day();
        x.day();
        b.due("up to the edge", 1, x.pen(0, 0));
        b.due("all are 0", 1, Bounds.by("sky 2 9;pen 0 9", "write 1 if way=0 and force=0 and next=0").day());
    }

    // ---- promise 4: faults

    private void digits() {
        good("sky 00002 00001", 0);
        fault("sky 000002 1", 4, 1);
        fault("sky 2 000001", 6, 1);
        fault("sky 22 1", 4, 1);
        fault("sky 21", 4, 1);
        good("sky2 1;pen00003 00009;mark00003", 1);
        fault("sky 2 1;pen 000003 9", 12, 1);
        fault("sky 2 1;mark 99999", 13, 1);
        fault("sky 2 1;mark /", 13, 0);
        fault("sky 2 1;mark :", 13, 0);
        fault("sky 2 1:", 7, 0);
    }

    private void words() {
        good("sky 2 1;pen0 0", 1);
        fault("skypen 2 1", 0, 0);
        fault("sk 2 1", 0, 0);
        fault("sky 2 1;pens 0 0", 8, 0);
        fault("sky 2 1;win 0 0", 8, 0);
        fault("sky 2 1;windy 0 0", 8, 0);
        fault("sky 2 1;markmark 0", 8, 0);
        fault("skya 2 1", 0, 0);
        fault("skyz 2 1", 0, 0);
        fault("sky` 2 1", 3, 0);
        fault("sky{ 2 1", 3, 0);
        fault("skY 2 1", 0, 0);
        fault("skyY 2 1", 3, 0);
    }

    private void blanks() {
        good("sky 2 1", 0);
        good("   sky   2   1   ;   pen   0   0   ", 1);
        good("sky2 1;pen0 0;wind0 0;mark0", 1);
        fault("sky 2" + (char) 31 + "1", 5, 0);
        fault("sky 2" + (char) 33 + "1", 5, 0);
        fault("sky 2\t1", 5, 0);
        fault("sky 2 1\n", 7, 0);
        fault("s ky 2 1", 0, 0);
        fault("sky 2 6 0", 8, 0);
    }

    private void firstFault() {
        fault("x", 0, 0);
        fault(" x", 1, 0);
        fault("sky 1 61;sky", 4, 1);
        fault("sky 2 61;sky", 6, 1);
        fault("sky 2 60;sky", 9, 4);
        fault("sky 2 60;pen 4 10", 13, 1);
        fault("sky 2 60;pen 3 10", 15, 1);
    }

    private void cantStand() {
        fault(";", 0, 0);
        fault("2 1", 0, 0);
        fault("sky;", 3, 0);
        fault("sky x", 4, 0);
        fault("sky 2;", 5, 0);
        fault("sky 2 sky", 6, 0);
        fault("sky 2 1,", 7, 0);
        fault("sky 2 1 2", 8, 0);
        fault("sky 2 1 mark 0", 8, 0);
        fault("sky 2 1;;mark 0", 8, 0);
        fault("sky 2 1;write 1", 8, 0);
        fault("sky 2 1;pen 0 0 0", 16, 0);
        fault("sky 2 1;wind -1 0", 13, 0);
        fault("sky 2 1;mark 0 0", 15, 0);
    }

    private void theEnd() {
        fault("", 0, 0);
        fault(" ", 1, 0);
        fault("sky", 3, 0);
        fault("sky 2", 5, 0);
        fault("sky 2  ", 7, 0);
        fault("sky 2 1;", 8, 0);
        fault("sky 2 1; ", 9, 0);
        fault("sky 2 1;pen", 11, 0);
        fault("sky 2 1;pen 0", 13, 0);
        fault("sky 2 1;wind 0", 14, 0);
        fault("sky 2 1;mark", 12, 0);
    }

    private void notAsTold() {
        fault("sky 1 60", 4, 1);
        fault("sky 7 60", 4, 1);
        fault("sky 6 0", 6, 1);
        fault("sky 6 61", 6, 1);
        fault("sky 6 60;pen 36 9", 13, 1);
        fault("sky 6 60;pen 35 10", 16, 1);
        fault("sky 6 60;wind 4 9", 14, 1);
        fault("sky 6 60;wind 3 10", 16, 1);
        fault("sky 6 60;mark 36", 14, 1);
        fault("sky 6 60;mark 000000", 14, 1);
        good("sky 6 60;pen 35 9;wind 3 9;mark 35", 1);
    }

    private void tooMany() {
        fault("sky 2 1;  sky", 10, 4);
        fault("  pen", 2, 4);
        fault("sky 2 1" + times(";pen 0 0", 5) + "; pen", 49, 4);
        good("sky 2 1" + times(";pen 0 0", 5) + "; mark 0", 5);
        fault("sky 2 1" + times(";wind 0 0", 12) + "; wind", 117, 4);
        good("sky 2 1" + times(";wind 0 0", 12) + "; mark 0", 0);
        fault("sky 2 1" + times(";mark 0", 39) + "; mark", 282, 4);
    }

    private void theLeast() {
        fault("sky 2 1" + times(";pen 0 0", 5) + ";pens", 48, 0);
        fault("sky 2 1" + times(";wind 0 0", 12) + ";winds", 116, 0);
        fault("sky 2 1" + times(";mark 0", 39) + ";marks", 281, 0);
        fault("sky 2 1" + times(";mark 0", 39) + ";", 281, 0);
        fault("skies 2 1", 0, 0);
        fault("sky 000001 1", 4, 1);
    }

    // ---- promise 4: in place of another

    private void inPlace() {
        SkySpire x = Bounds.told("sky 6 60;pen 35 9;wind 1 1;mark 35");
        x.day();
        b.due("a smaller one", 2, Texts.sky(x, "sky 2 1;pen 3 8;pen 3 7"));
        b.due("the TAPE", 0, x.count(14));
        b.due("SIDE", 2, x.count(0));
        b.due("FADES", 1, x.count(1));
        b.due("winds", 0, x.count(3));
        b.due("STROKES", 0, x.count(7));
        b.due("LIKE", 4, x.count(8));
        b.due("no CELL 4", -2, x.cell(4, 0));
        b.due("how many PENS", 0, Texts.sky(x, "sky 6 1"));
        b.due("no MARK", 36, x.count(8));
        b.due("an empty TAPE is no SKY", Texts.fault(0, 0), x.sky());
    }

    private void whatStays() {
        SkySpire x = Bounds.busy();
        b.due("NOTES", 1, x.count(11));
        b.due("ACTS", 4, x.count(12));
        b.due("another", 1, Texts.sky(x, "sky 3 9;pen 4 4"));
        b.due("no NOTES", 0, x.count(11));
        b.due("none can be UNDONE", 0, x.count(12));
        b.due("none can be UNDONE", -2, x.undo());
        b.due("RULES", 2, x.count(4));
        b.due("IN FORCE", 1, x.count(5));
        b.due("x", 5, x.count(13));
        b.due("the IMAGE", 1, x.back(1));
        b.due("its SIDE", 2, x.count(0));
    }

    private void allStays() {
        String[] wrong = {"", "sky 7 1", "sky 3 9;pen 0 0;pen 9 0", "sky 3 9;mark 0;wind 0 0;sky", "sky 6 60;mark 35;"};
        for (String text : wrong) {
            SkySpire x = Bounds.busy();
            SkySpire same = Bounds.busy();
            same.end(0);
            b.due(text, 1, Texts.sky(x, text) < -2 ? 1 : 0);
            b.due("the TAPE is empty", 0, x.count(14));
            b.alike(text, same, x);
        }
    }
}
