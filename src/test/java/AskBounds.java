/** Promises 15 to 21: what is asked of how it goes on. */
final class AskBounds {
    private static final String ONE = "sky 2 60;pen 3 9;mark 3";

    private final Bounds b;

    private AskBounds(Bounds b) {
        this.b = b;
    }

    static void run(Bounds b) {
        AskBounds a = new AskBounds(b);
        a.aheadOf();
        a.signs();
        a.holds();
        a.wroteAndCame();
        a.changes();
    }

    private void aheadOf() {
        b.test(15, "AHEAD n DAYS (0 to 100)", this::aheadDays);
        b.test(15, "what 0: whose STROKE in the CELL of that number (NONE: none), 1: the CELL of the PEN of that number, "
            + "2: how many, 3: LIKE (of no number).", this::aheadNumbers);
        b.test(15, "-2 without these, or a SKY.", this::noAhead);
        b.test(15, "CELLS in which a STROKE is where the MARK is, or none where it is not, how many.", this::like);
        b.test(15, "By what is asked nothing changes", () -> b.changesNothing(x -> x.ahead(0, 100, 3)));
        b.test(15, "DAYS go on by the RULE IN FORCE, beyond 999, too.", this::beyond999);
    }

    private void signs() {
        b.test(16, "the first DAY, this one the first, of 100, at whose begin there is a STROKE in each CELL of the MARK.",
            this::sign);
        b.test(16, "SIGN; -2: at none of these; NONE without a SKY.", this::noSign);
        b.test(16, "By what is asked nothing changes", () -> b.changesNothing(SkySpire::sign));
        b.test(17, "CLEAN likewise, and in no other.", this::clean);
        b.test(17, "CLEAN; -2: at none of these; NONE without a SKY.", this::noClean);
        b.test(17, "By what is asked nothing changes", () -> b.changesNothing(SkySpire::clean));
    }

    private void holds() {
        b.test(18, "HOLD for n DAYS (1 to 60)", this::holdDays);
        b.test(18, "the set of PENS that had best be STAYED from now on, and no others", this::holdNoOthers);
        b.test(18, "of several the one with fewest, then the least as bits: how LIKE.", this::holdOfSeveral);
        b.test(18, "HOLD what 0: the set, 1: how LIKE. NONE without these, or a SKY.", this::noHold);
        b.test(18, "By what is asked nothing changes", () -> b.changesNothing(x -> x.hold(60, 0)));
    }

    private void wroteAndCame() {
        b.test(19, "WROTE for n DAYS (1 to 60)", this::wroteDays);
        b.test(19, "each of which alone, all others STAYED from now on, it as it is", this::wroteAlone);
        b.test(19, "leaves a STROKE in a CELL in these DAYS, at the end of any.", this::wroteAtAnyEnd);
        b.test(19, "WROTE, as bits; NONE without these.", this::noWrote);
        b.test(19, "By what is asked nothing changes", () -> b.changesNothing(x -> x.wrote(0, 60)));
        b.test(20, "CAME of a PEN to a CELL in n DAYS (1 to 60)", this::cameDays);
        b.test(20, "CELLS in which it can be now, in place of where it is, all else as it is", this::cameFrom);
        b.test(20, "CAME what 0: how many, 1: the least (-2: there is none). NONE without these.", this::noCame);
        b.test(20, "By what is asked nothing changes", () -> b.changesNothing(x -> x.came(0, 0, 60, 0)));
    }

    private void changes() {
        b.test(21, "CHANGE for n DAYS (1 to 60)", this::changeDays);
        b.test(21, "two of the winds told that had best change places from now on, or none", this::changeOfWinds);
        b.test(21, "of several none, then the first one least, then the other: how LIKE; which.", this::changeOfSeveral);
        b.test(21, "CHANGE what 0: how LIKE, 1, 2: which (NONE: none). -2 without these, or a SKY.", this::noChange);
        b.test(21, "By what is asked nothing changes", () -> b.changesNothing(x -> x.change(60, 0)));
    }

    // ---- promise 15

    private void aheadDays() {
        SkySpire x = Bounds.by(ONE, "write 1 if day=99");
        b.due("99: whose", -1, x.ahead(3, 99, 0));
        b.due("100: whose", 0, x.ahead(3, 100, 0));
        b.due("99: how many", 0, x.ahead(0, 99, 2));
        b.due("100: how many", 1, x.ahead(0, 100, 2));
        b.due("99: LIKE", 3, x.ahead(0, 99, 3));
        b.due("100: LIKE", 4, x.ahead(0, 100, 3));
        x = Bounds.by(ONE, "write 1 if day=0");
        b.due("0: whose", -1, x.ahead(3, 0, 0));
        b.due("1: whose", 0, x.ahead(3, 1, 0));
        x.day();
        b.due("0, a DAY later", 0, x.ahead(3, 0, 0));
        x = Bounds.told("sky 6 60;pen 0 0;wind 1 0");
        b.due("0: CELL", 0, x.ahead(0, 0, 1));
        b.due("1: CELL", 1, x.ahead(0, 1, 1));
        b.due("100: CELL", 5, x.ahead(0, 100, 1));
        b.refusedOutside(0, 100, -2, (y, n) -> y.ahead(0, n, 0));
        b.refusedOutside(0, 100, -2, (y, n) -> y.ahead(0, n, 3));
    }

    private void aheadNumbers() {
        SkySpire x = Bounds.busy();
        b.due("CELL 0", -1, x.ahead(0, 0, 0));
        b.due("CELL 3", 1, x.ahead(3, 0, 0));
        b.refusedOutside(0, 3, -2, (y, cell) -> y.ahead(cell, 0, 0));
        b.due("PEN 0", 0, x.ahead(0, 0, 1));
        b.due("PEN 2", 1, x.ahead(2, 0, 1));
        b.refusedOutside(0, 2, -2, (y, pen) -> y.ahead(pen, 0, 1));
        for (int number : new int[] {Integer.MIN_VALUE, -1, 0, 36, Integer.MAX_VALUE}) {
            b.due("how many, of number " + number, 1, x.ahead(number, 0, 2));
            b.due("LIKE, of number " + number, 2, x.ahead(number, 0, 3));
        }
        SkySpire none = Bounds.told("sky 2 9");
        b.due("no PENS", -2, none.ahead(0, 0, 1));
        b.due("no PENS: whose", -1, none.ahead(0, 100, 0));
    }

    private void noAhead() {
        b.refusedOutside(0, 3, -2, (x, what) -> x.ahead(0, 1, what));
        for (int what = 0; what < 4; what++) {
            b.due("without a SKY, what " + what, -2, new SkySpire().ahead(0, 0, what));
        }
    }

    private void like() {
        SkySpire x = Bounds.told("sky 2 9;pen 0 9;pen 1 9;pen 2 9;pen 3 9;mark 0;mark 3");
        b.due("no STROKES", 2, x.count(8));
        b.due("STROKES in all", 2, x.ahead(0, 1, 3));
        x.stay(1);
        x.stay(2);
        b.due("as the MARK", 4, x.ahead(0, 1, 3));
        x.stay(0);
        x.stay(1);
        x.stay(2);
        x.stay(3);
        b.due("where it is not", 0, x.ahead(0, 1, 3));
        b.due("without a MARK", 36, Bounds.told("sky 6 9").count(8));
        b.due("without a SKY", 0, new SkySpire().count(8));
    }

    // So far no run of 512 calls comes; the sentence holds beyond them all the same.
    private void beyond999() {
        SkySpire x = Bounds.told("sky 2 60;pen 0 9;mark 0");
        Bounds.after(x, 999);
        x.blot(0);
        Texts.rule(x, "write 1 if day=999");
        Texts.rule(x, "write 1 if day=1097");
        Texts.rule(x, "write 1 if day=1098");
        x.force(0);
        b.due("of DAY 999", 0, x.ahead(0, 1, 0));
        b.due("SIGN of DAY 999", 1000, x.sign());
        x.force(1);
        b.due("the last of 100", 1098, x.sign());
        b.due("the last of 100", 1098, x.clean());
        x.force(2);
        b.due("behind these", -2, x.sign());
        b.due("the 100th", 0, x.ahead(0, 100, 0));
        b.due("ahead of it", -1, x.ahead(0, 99, 0));
    }

    // ---- promises 16 and 17

    private void sign() {
        b.due("no MARK: this one", 0, Bounds.told("sky 2 60").sign());
        b.due("no MARK in 36 CELLS", 0, Bounds.told("sky 6 60").sign());
        b.due("in the last of 36", 1, Bounds.told("sky 6 60;pen 35 9;mark 35").sign());
        b.due("the next", 1, Bounds.told(ONE).sign());
        b.due("this one", 1, Bounds.after(Bounds.told(ONE), 1).sign());
        b.due("the last of 100", 99, Bounds.by(ONE, "write 1 if day=98").sign());
        b.due("behind these", -2, Bounds.by(ONE, "write 1 if day=99").sign());
        b.due("from DAY 5, the last", 104, Bounds.after(Bounds.by(ONE, "write 1 if day=103"), 5).sign());
        b.due("from DAY 5, behind these", -2, Bounds.after(Bounds.by(ONE, "write 1 if day=104"), 5).sign());
        String two = ";pen 0 9;pen 3 9;mark 0;mark 3";
        b.due("in each", 1, Bounds.told("sky 2 60" + two).sign());
        b.due("in one alone", -2, Bounds.by("sky 2 60" + two, "write pen").sign());
        b.due("by turns, one faded", -2, Bounds.by("sky 2 1" + two, "write 1 if day%2=pen").sign());
        b.due("by turns, there yet", 2, Bounds.by("sky 2 2" + two, "write 1 if day%2=pen").sign());
        b.due("others do not matter", 1, Bounds.told("sky 2 60;pen 0 9;pen 3 9;mark 0").sign());
    }

    private void noSign() {
        b.due("at none", -2, Bounds.told("sky 2 60;mark 0").sign());
        b.due("without a SKY", -1, new SkySpire().sign());
    }

    private void clean() {
        b.due("no MARK, no STROKE: this one", 0, Bounds.told("sky 2 60").clean());
        b.due("in the last of 36", 1, Bounds.told("sky 6 60;pen 35 9;mark 35").clean());
        b.due("no MARK, a STROKE", -2, Bounds.after(Bounds.told("sky 2 60;pen 0 9"), 1).clean());
        b.due("the next", 1, Bounds.told(ONE).clean());
        b.due("this one", 1, Bounds.after(Bounds.told(ONE), 1).clean());
        b.due("the last of 100", 99, Bounds.by(ONE, "write 1 if day=98").clean());
        b.due("behind these", -2, Bounds.by(ONE, "write 1 if day=99").clean());
        b.due("from DAY 5, the last", 104, Bounds.after(Bounds.by(ONE, "write 1 if day=103"), 5).clean());
        b.due("from DAY 5, behind these", -2, Bounds.after(Bounds.by(ONE, "write 1 if day=104"), 5).clean());
        SkySpire x = Bounds.told("sky 2 60;pen 3 9;pen 0 9;mark 3");
        b.due("in one other", -2, x.clean());
        x.day();
        x.stay(1);
        b.due("when that has faded", 61, x.clean());
        b.due("SIGN does not wait for it", 1, x.sign());
    }

    private void noClean() {
        b.due("at none", -2, Bounds.told("sky 2 60;mark 0").clean());
        b.due("without a SKY", -1, new SkySpire().clean());
    }

    // ---- promise 18

    private void holdDays() {
        SkySpire x = Bounds.by(ONE, "write 1 if day=59");
        b.due("59", 3, x.hold(59, 1));
        b.due("60", 4, x.hold(60, 1));
        x = Bounds.by(ONE, "write 1 if day=0");
        b.due("1", 4, x.hold(1, 1));
        x = Bounds.by(ONE, "write 1 if day=1");
        b.due("1", 3, x.hold(1, 1));
        b.due("2", 4, x.hold(2, 1));
        b.refusedOutside(1, 60, -1, (y, n) -> y.hold(n, 0));
        b.refusedOutside(1, 60, -1, (y, n) -> y.hold(n, 1));
    }

    private void holdNoOthers() {
        SkySpire x = Bounds.told(ONE);
        x.stay(0);
        b.due("STAYED no more", 0, x.hold(1, 0));
        b.due("LIKE", 4, x.hold(1, 1));
        x = Bounds.told("sky 3 60;pen 0 9;pen 1 9;pen 2 9;pen 3 9;pen 4 9;mark 8");
        b.due("all 5", 31, x.hold(60, 0));
        b.due("LIKE", 8, x.hold(60, 1));
        x = Bounds.told("sky 2 60;mark 0");
        b.due("no PENS", 0, x.hold(1, 0));
        b.due("LIKE", 3, x.hold(1, 1));
    }

    private void holdOfSeveral() {
        b.due("none does as well as any", 0, Bounds.told("sky 2 60;pen 0 9;pen 0 9;mark 1").hold(1, 0));
        SkySpire x = Bounds.told("sky 2 60;pen 0 9;pen 0 9;pen 0 9;mark 0");
        b.due("3, 5 and 6: the least", 3, x.hold(1, 0));
        b.due("LIKE", 4, x.hold(1, 1));
        b.due("4 and 7: the fewest", 4, Bounds.told("sky 2 60;pen 0 9;pen 0 9;pen 1 9").hold(1, 0));
        // The third PEN's STROKE makes the two others WRITE a DAY later, each in a CELL of its own.
        x = Bounds.by("sky 2 1;pen 0 9;pen 0 0;pen 0 9;wind 3 0;wind 1 0",
            "write 1 if pen=2 and day=0 or pen<2 and day=1 and here=1");
        b.due("3 and 4: the one with fewest, though not the least", 4, x.hold(2, 0));
        b.due("LIKE", 4, x.hold(2, 1));
    }

    private void noHold() {
        b.due("what 0", 0, Bounds.told(ONE).hold(1, 0));
        b.due("what 1", 4, Bounds.told(ONE).hold(1, 1));
        b.refusedOutside(0, 1, -1, (x, what) -> x.hold(1, what));
        b.due("without a SKY", -1, new SkySpire().hold(1, 0));
        b.due("without a SKY", -1, new SkySpire().hold(1, 1));
    }

    // ---- promise 19

    private void wroteDays() {
        SkySpire x = Bounds.by(ONE, "write 1 if day=59");
        b.due("59", 0, x.wrote(3, 59));
        b.due("60", 1, x.wrote(3, 60));
        x = Bounds.by(ONE, "write 1 if day=1");
        b.due("1", 0, x.wrote(3, 1));
        b.due("2", 1, x.wrote(3, 2));
        b.due("1, of the first", 1, Bounds.by(ONE, "write 1 if day=0").wrote(3, 1));
        b.refusedOutside(1, 60, -1, (y, n) -> y.wrote(3, n));
    }

    private void wroteAlone() {
        b.due("5 in one CELL", 31, Bounds.told("sky 6 9" + ";pen 35 9".repeat(5)).wrote(35, 1));
        SkySpire x = Bounds.told("sky 2 9;pen 0 9;pen 0 9");
        b.due("both", 3, x.wrote(0, 1));
        x.stay(0);
        b.due("one STAYED, as it is", 2, x.wrote(0, 60));
        x.stay(1);
        b.due("both STAYED", 0, x.wrote(0, 60));
        b.due("none elsewhere", 0, x.wrote(1, 60));
        x = Bounds.by("sky 2 9;pen 0 9;pen 0 9", "write 1 if pen=0 and day=0 or pen=1 and day=1 and here=1");
        b.due("without the other's STROKE", 1, x.wrote(0, 60));
        b.due("no PENS", 0, Bounds.told("sky 2 9").wrote(0, 1));
    }

    private void wroteAtAnyEnd() {
        SkySpire x = Bounds.told("sky 3 1;pen 0 0;wind 1 0");
        b.due("where it was at first", 0, x.wrote(0, 60));
        b.due("on the first", 1, x.wrote(1, 1));
        b.due("on the first, faded since", 1, x.wrote(1, 60));
        b.due("on the second", 1, x.wrote(2, 2));
        b.due("not on the first", 0, x.wrote(2, 1));
        x.day();
        b.due("one of an earlier DAY", 0, x.wrote(1, 1));
        x = Bounds.told("sky 2 9;pen 0 9");
        x.day();
        x.stay(0);
        b.due("one of an earlier DAY, STAYED", 0, x.wrote(0, 1));
    }

    private void noWrote() {
        b.due("the first CELL", 1, Bounds.told("sky 2 9;pen 0 9").wrote(0, 1));
        b.due("the last CELL", 1, Bounds.told(ONE).wrote(3, 1));
        b.refusedOutside(0, 3, -1, (x, cell) -> x.wrote(cell, 1));
        b.due("without a SKY", -1, new SkySpire().wrote(0, 1));
    }

    // ---- promise 20

    private void cameDays() {
        SkySpire x = Bounds.told("sky 2 9;pen 0 0;wind 1 0;wind 3 0");
        b.due("1: to column 1", 2, x.came(0, 1, 1, 0));
        b.due("1: to column 0", 0, x.came(0, 0, 1, 0));
        b.due("59: to column 1", 2, x.came(0, 1, 59, 0));
        b.due("59: to column 0", 0, x.came(0, 0, 59, 0));
        b.due("60: to column 1", 0, x.came(0, 1, 60, 0));
        b.due("60: to column 0", 2, x.came(0, 0, 60, 0));
        b.due("60: the least in row 1", 2, x.came(0, 2, 60, 1));
        b.refusedOutside(1, 60, -1, (y, n) -> y.came(0, 0, n, 0));
    }

    private void cameFrom() {
        SkySpire x = Bounds.told("sky 6 9;pen 0 0;pen 3 1;wind 1 0");
        b.due("to the edge: from all of its row", 6, x.came(0, 5, 60, 0));
        b.due("the least", 0, x.came(0, 5, 60, 1));
        b.due("to the edge in one", 2, x.came(0, 35, 1, 0));
        b.due("the least", 34, x.came(0, 35, 1, 1));
        b.due("to the other edge: none", 0, x.came(0, 0, 1, 0));
        b.due("a STIFF one: where it is", 1, x.came(1, 35, 60, 0));
        b.due("the least", 35, x.came(1, 35, 60, 1));
        x.day();
        b.due("by where it is now", 0, x.came(0, 5, 60, 1));
        x.stay(0);
        b.due("STAYED", 1, x.came(0, 5, 60, 0));
        b.due("STAYED, the least", 5, x.came(0, 5, 60, 1));
    }

    private void noCame() {
        SkySpire x = Bounds.told("sky 2 9;pen 0 0;wind 1 0");
        b.due("none", 0, x.came(0, 0, 1, 0));
        b.due("the least of none", -2, x.came(0, 0, 1, 1));
        b.due("the least, 0", 0, x.came(0, 1, 1, 1));
        b.refusedOutside(0, 2, -1, (y, pen) -> y.came(pen, 0, 1, 0));
        b.refusedOutside(0, 3, -1, (y, cell) -> y.came(0, cell, 1, 0));
        b.refusedOutside(0, 1, -1, (y, what) -> y.came(0, 0, 1, what));
        b.due("PEN 2 of 3, CELL 3 of 4", 3, Bounds.busy().came(2, 3, 1, 1));
        b.due("without a SKY", -1, new SkySpire().came(0, 0, 1, 0));
    }

    // ---- promise 21

    private void changeIs(String what, SkySpire x, int n, int like, int one, int other) {
        b.due(what + ": LIKE", like, x.change(n, 0));
        b.due(what + ": the first one", one, x.change(n, 1));
        b.due(what + ": the other", other, x.change(n, 2));
    }

    private void changeDays() {
        SkySpire x = Bounds.by("sky 2 60;pen 0 0;wind 1 0;wind 3 0;mark 1", "write 1 if day=59");
        changeIs("59", x, 59, 3, -1, -1);
        changeIs("60", x, 60, 4, 0, 1);
        x = Bounds.told("sky 2 60;pen 0 0;wind 1 0;wind 2 0;mark 2");
        changeIs("1", x, 1, 4, 0, 1);
        b.refusedOutside(1, 60, -2, (y, n) -> y.change(n, 0));
        b.refusedOutside(1, 60, -2, (y, n) -> y.change(n, 1));
    }

    private void changeOfWinds() {
        changeIs("no winds", Bounds.told("sky 2 60;pen 2 0;mark 3"), 1, 2, -1, -1);
        changeIs("one wind", Bounds.told("sky 2 60;pen 0 0;wind 1 0;mark 2"), 1, 2, -1, -1);
        SkySpire x = Bounds.by("sky 2 60;pen 0 9" + ";wind 0 0".repeat(10) + ";wind 2 9;wind 1 9;mark 1",
            "write 1 if day=10");
        changeIs("the last two of 12", x, 11, 4, 10, 11);
        b.due("the winds stay", 2, x.ahead(0, 11, 1));
        x = Bounds.told("sky 2 60;pen 0 5;wind 1 4;wind 1 5;mark 1");
        changeIs("FORCE with its WAY", x, 1, 4, 0, 1);
        x = Bounds.told("sky 3 60;pen 0 5;wind 1 9;wind 2 4;mark 0;mark 1");
        changeIs("both FORCES", x, 2, 9, 0, 1);
        changeIs("both FORCES, asked again", x, 2, 9, 0, 1);
        x = Bounds.told("sky 2 60;pen 0 0;wind 1 0;wind 2 0;mark 3");
        x.day();
        x.blot(1);
        changeIs("from now on, as told", x, 1, 4, -1, -1);
        x = Bounds.told("sky 2 60;pen 0 0;wind 1 0;wind 1 0;wind 2 0;mark 3");
        x.day();
        x.blot(1);
        changeIs("from now on, the wind of DAY 1", x, 1, 4, 1, 2);
    }

    private void changeOfSeveral() {
        SkySpire x = Bounds.told("sky 2 60;pen 0 0;wind 1 0;wind 1 0;mark 1");
        changeIs("none, of as good ones", x, 1, 4, -1, -1);
        x = Bounds.by("sky 3 60;pen 0 0;wind 1 0;wind 1 0;wind 2 0;mark 4", "write 1 if day=1");
        changeIs("0 and 2, 1 and 2", x, 2, 9, 0, 2);
        x = Bounds.told("sky 2 60;pen 0 0;wind 1 0;wind 2 0;wind 2 0;mark 2");
        changeIs("0 and 1, 0 and 2", x, 1, 4, 0, 1);
    }

    private void noChange() {
        b.refusedOutside(0, 2, -2, (x, what) -> x.change(1, what));
        for (int what = 0; what < 3; what++) {
            b.due("without a SKY, what " + what, -2, new SkySpire().change(1, what));
        }
    }
}
