/** Promises 26 to 29 and 31 to 33: NOTES and what they tell of RULES, x, what is counted, IMAGES. */
final class KeepBounds {
    private static final String ONE = "sky 2 60;pen 3 9";

    private final Bounds b;

    private KeepBounds(Bounds b) {
        this.b = b;
    }

    static void run(Bounds b) {
        KeepBounds k = new KeepBounds(b);
        k.notes();
        k.ruledAndLook();
        k.seeds();
        k.counts();
        k.images();
    }

    private void notes() {
        b.test(26, "NOTES 0 to 9, told", this::tenNotes);
        b.test(26, "at the begin of the n-th DAY of all (0 to 60) a PEN's STROKE was in a CELL, or none (NONE).",
            this::noteDays);
        b.test(26, "A NOTE (n NONE: there are none then, 0): how many", this::noNotesThen);
        b.test(26, "-2, and nothing happens, without these (pen NONE: none), or if there are 10.", this::noNote);
    }

    private void ruledAndLook() {
        b.test(27, "which of the RULES, and of none, so that from the begin on, all as the text told it, all NOTES are so",
            this::fromTheBegin);
        b.test(27, "how many; the first (none ahead of 0, told as NONE).", this::theFirst);
        b.test(27, "RULED what 0: how many, 1: the first (NONE: none; -2: there is none such).", this::noneSuch);
        b.test(27, "-3 for others, or without a SKY.", this::noRuled);
        b.test(27, "By what is asked nothing changes", () -> b.changesNothing(x -> x.ruled(1)));
        b.test(28, "LOOK (n 0 to 60)", this::lookDays);
        b.test(28, "the CELL by whose STROKE in it these part best: the most alike are fewest, of several the least; "
            + "how many.", this::partBest);
        b.test(28, "-2: no RULE is so.", this::noRuleIsSo);
        b.test(28, "NONE without these, or a SKY.", this::noLook);
        b.test(28, "By what is asked nothing changes", () -> b.changesNothing(x -> x.look(60, 0)));
    }

    private void seeds() {
        b.test(29, "x (0 to 2147483647; 0 at first)", this::seed);
        b.test(29, "x becomes a number: what it was; NONE, and nothing happens, below 0.", this::belowZero);
    }

    private void counts() {
        b.test(31, "0: SIDE, 1: FADES, 2: PENS, 3: winds, 4: RULES, 5: the RULE IN FORCE (NONE), 6: DAY, 7: STROKES, how "
            + "many, 8: LIKE, 9: CLAPS, 10: PENS that are STAYED, as bits, 11: NOTES, 12: ACTS that can be UNDONE, 13: x, "
            + "14: bytes of the TAPE.", this::count);
        b.test(31, "NONE for others.", this::noCount);
    }

    private void images() {
        b.test(32, "IMAGES 0 to 3", this::fourImages);
        b.test(32, "An IMAGE is made: the DAY; NONE without it.", this::noImage);
        b.test(33, "all but the RULES and the TAPE, as it is (the RULE IN FORCE, what can be UNDONE, too)", this::allBut);
        b.test(33, "gone back to, it is as it was (these stay).", this::asItWas);
        b.test(33, "NONE, and nothing happens, if it was never made, or without it.", this::neverMade);
    }

    // ---- promise 26

    private static SkySpire tenTold() {
        SkySpire x = Bounds.busy();
        for (int i = 1; i < 10; i++) {
            x.note(0, i % 4, -1);
        }
        return x;
    }

    private void tenNotes() {
        SkySpire x = Bounds.told(ONE);
        for (int i = 1; i <= 10; i++) {
            b.due("the " + i + ".", i, x.note(0, 0, -1));
        }
        b.due("an eleventh", -2, x.note(0, 0, -1));
        b.due("NOTES", 10, x.count(11));
        b.due("all are so", 1, x.ruled(0));
        x.note(-1, 0, 0);
        for (int i = 1; i <= 9; i++) {
            x.note(0, 0, -1);
        }
        b.due("the tenth", 10, x.note(0, 0, 0));
        b.due("counts too", 0, x.ruled(0));
    }

    /** How many of none and of a RULE are so by one NOTE. */
    private void noted(String rule, int n, int pen, int want) {
        SkySpire x = Bounds.by(ONE, rule);
        b.due("note", 1, x.note(n, 3, pen));
        b.due(rule + ", DAY " + n + ", PEN " + pen, want, x.ruled(0));
    }

    private void noteDays() {
        noted("write 1 if day=0", 0, -1, 2);
        noted("write 1 if day=0", 0, 0, 0);
        noted("write 1 if day=0", 1, -1, 0);
        noted("write 1 if day=0", 1, 0, 2);
        noted("write 1 if day=59", 59, 0, 1);
        noted("write 1 if day=59", 60, 0, 2);
        noted("write 1 if day=60", 60, 0, 1);
        noted("write 1 if day=60", 60, -1, 1);
        b.refusedOutside(-1, 60, -2, (x, n) -> x.note(n, 0, -1));
    }

    private void noNotesThen() {
        b.due("without a SKY", 0, new SkySpire().note(-1, 0, -1));
        SkySpire x = tenTold();
        b.due("of 10", 0, x.note(-1, 0, 0));
        b.due("NOTES", 0, x.count(11));
        b.due("of none", 0, x.note(-1, 0, 0));
        b.due("one", 1, x.note(0, 0, -1));
        b.due("of one, whatever the others are", 0, x.note(-1, Integer.MAX_VALUE, Integer.MIN_VALUE));
        b.due("NOTES", 0, x.count(11));
        b.due("all RULES are so", 3, x.ruled(0));
        b.due("ACTS", 4, x.count(12));
    }

    private void noNote() {
        SkySpire x = Bounds.busy();
        b.due("the first CELL, no PEN", 2, x.note(0, 0, -1));
        b.due("the last CELL, the last PEN", 3, x.note(60, 3, 2));
        b.due("PEN 0", 4, x.note(60, 3, 0));
        b.refusedOutside(0, 3, -2, (y, cell) -> y.note(0, cell, -1));
        b.refusedOutside(-1, 2, -2, (y, pen) -> y.note(0, 0, pen));
        b.refused("an eleventh", KeepBounds::tenTold, y -> y.note(0, 0, -1), -2);
        b.due("without a SKY", -2, new SkySpire().note(0, 0, -1));
        b.due("no PENS: none's", 1, Bounds.told("sky 2 9").note(0, 0, -1));
        b.due("no PENS: one's", -2, Bounds.told("sky 2 9").note(0, 0, 0));
    }

    // ---- promise 27

    private void fromTheBegin() {
        SkySpire x = Bounds.by("sky 2 60;pen 0 0;wind 1 0", "write 0");
        x.note(1, 1, 0);
        b.due("none's", -1, x.ruled(1));
        x.set(0, 3);
        x.bend(0, 9);
        x.stay(0);
        x.day();
        x.day();
        x.blot(1);
        b.due("how many, whatever was done", 1, x.ruled(0));
        b.due("none's, whatever was done", -1, x.ruled(1));
        x.note(1, 3, -1);
        b.due("both NOTES", 1, x.ruled(0));
        x.note(1, 3, 0);
        b.due("the third is not so", 0, x.ruled(0));
    }

    private void theFirst() {
        SkySpire x = Bounds.told(ONE);
        b.due("no RULES, no NOTES", 1, x.ruled(0));
        b.due("none", -1, x.ruled(1));
        for (int i = 0; i < 6; i++) {
            Texts.rule(x, "write " + i / 3);
        }
        b.due("6 RULES, no NOTES", 7, x.ruled(0));
        b.due("none ahead of 0", -1, x.ruled(1));
        x.note(1, 3, -1);
        b.due("0 to 2", 3, x.ruled(0));
        b.due("0", 0, x.ruled(1));
        x.note(-1, 0, 0);
        x.note(1, 3, 0);
        b.due("none and 3 to 5", 4, x.ruled(0));
        x = Bounds.told(ONE);
        for (int i = 0; i < 6; i++) {
            Texts.rule(x, "write 1 if day=" + i);
        }
        x.note(5, 3, -1);
        x.note(6, 3, 0);
        b.due("the last alone", 1, x.ruled(0));
        b.due("5", 5, x.ruled(1));
    }

    private void noneSuch() {
        SkySpire x = Bounds.by(ONE, "write 0");
        x.note(0, 3, 0);
        b.due("how many", 0, x.ruled(0));
        b.due("the first", -2, x.ruled(1));
        x.note(-1, 0, 0);
        x.note(1, 3, 0);
        b.due("none", -1, x.ruled(1));
        x.note(-1, 0, 0);
        x.note(1, 3, -1);
        b.due("RULE 0", 0, x.ruled(1));
    }

    private void noRuled() {
        b.refusedOutside(0, 1, -3, SkySpire::ruled);
        b.due("without a SKY", -3, new SkySpire().ruled(0));
        b.due("without a SKY", -3, new SkySpire().ruled(1));
    }

    // ---- promise 28

    private void lookIs(String what, SkySpire x, int n, int cell, int many) {
        b.due(what + ": the CELL", cell, x.look(n, 0));
        b.due(what + ": how many", many, x.look(n, 1));
    }

    private void lookDays() {
        SkySpire x = Bounds.by(ONE, "write 1 if day=59");
        lookIs("0", x, 0, 0, 2);
        lookIs("1", x, 1, 3, 1);
        lookIs("59", x, 59, 3, 1);
        lookIs("60", x, 60, 0, 2);
        x.day();
        x.set(0, 0);
        lookIs("0, a DAY later", x, 0, 0, 2);
        lookIs("1, a DAY later", x, 1, 3, 1);
        b.refusedOutside(0, 60, -1, (y, n) -> y.look(n, 0));
        b.refusedOutside(0, 60, -1, (y, n) -> y.look(n, 1));
    }

    private void partBest() {
        SkySpire x = Bounds.told("sky 3 9;pen 8 9;pen 7 9;pen 6 9;pen 5 9;pen 4 9");
        for (int i = 0; i < 6; i++) {
            Texts.rule(x, "write 1 if pen=" + i);
        }
        lookIs("5 of 7 alike in each of 5 CELLS: the least", x, 1, 4, 5);
        x.note(1, 4, -1);
        lookIs("RULES 0 to 3 and 5: 4 of 5", x, 1, 5, 4);
        x.note(1, 5, -1);
        x.note(1, 6, -1);
        x.note(1, 7, -1);
        lookIs("RULES 0 and 5", x, 1, 8, 1);
        x.note(1, 8, 0);
        lookIs("RULE 0 alone", x, 1, 0, 1);
        x = Bounds.told("sky 2 9;pen 3 9;pen 3 9");
        Texts.rule(x, "write pen");
        Texts.rule(x, "write 1-pen");
        lookIs("none, one's, the other's", x, 1, 3, 1);
        x = Bounds.told("sky 6 9;pen 35 9");
        Texts.rule(x, "write 0");
        lookIs("the last of 36", x, 1, 35, 1);
        x = Bounds.by("sky 6 9" + ";pen 0 9".repeat(4) + ";pen 35 9", "write 1 if pen=4");
        lookIs("the last PEN's in the last of 36, alike", x, 1, 0, 2);
    }

    private void noRuleIsSo() {
        SkySpire x = Bounds.by(ONE, "write 0");
        x.note(0, 0, 0);
        for (int n : new int[] {0, 1, 60}) {
            lookIs("DAY " + n, x, n, -2, -2);
        }
        x.note(-1, 0, 0);
        lookIs("no NOTES", x, 1, 3, 1);
    }

    private void noLook() {
        b.refusedOutside(0, 1, -1, (x, what) -> x.look(0, what));
        b.due("without a SKY", -1, new SkySpire().look(0, 0));
        b.due("without a SKY", -1, new SkySpire().look(0, 1));
        SkySpire x = Bounds.by(ONE, "write 0");
        x.note(0, 0, 0);
        b.due("n ahead of RULES", -1, x.look(61, 0));
        b.due("what ahead of RULES", -1, x.look(0, 2));
    }

    // ---- promise 29

    private void seed() {
        SkySpire x = new SkySpire();
        b.due("at first", 0, x.seed(2147483647));
        b.due("the most", 2147483647, x.count(13));
        b.due("was the most", 2147483647, x.seed(0));
        b.due("the least", 0, x.count(13));
        b.due("was the least", 0, x.seed(1));
        b.due("was 1", 1, x.seed(1));
    }

    private void belowZero() {
        b.refused("-1", Bounds::busy, x -> x.seed(-1), -1);
        b.refused("the least int", Bounds::busy, x -> x.seed(Integer.MIN_VALUE), -1);
        b.refused("without a SKY", SkySpire::new, x -> x.seed(-1), -1);
        b.due("0", 5, Bounds.busy().seed(0));
    }

    // ---- promise 31

    private void countsAre(String what, SkySpire x, int... want) {
        for (int i = 0; i < want.length; i++) {
            b.due(what + ", count " + i, want[i], x.count(i));
        }
    }

    private void count() {
        countsAre("a new one", new SkySpire(), 0, 0, 0, 0, 0, -1, 0, 0, 0, 0, 0, 0, 0, 0, 0);
        countsAre("the least SKY", Bounds.told("sky 2 1"), 2, 1, 0, 0, 0, -1, 0, 0, 4, 0, 0, 0, 0, 0, 0);
        countsAre("a busy one", Bounds.busy(), 2, 3, 3, 2, 2, 1, 2, 1, 2, 1, 4, 1, 4, 5, 13);
        SkySpire x = Bounds.told("sky 6 60" + ";pen 35 9".repeat(5) + ";wind 0 0".repeat(12));
        for (int i = 0; i < 6; i++) {
            x.force(Texts.rule(x, "write 1"));
        }
        for (int i = 0; i < 16; i++) {
            x.day();
        }
        for (int pen = 0; pen < 5; pen++) {
            x.stay(pen);
        }
        for (int i = 0; i < 10; i++) {
            x.note(0, 0, -1);
        }
        x.seed(2147483647);
        for (int i = 0; i < 20; i++) {
            x.feed(0, 0, 0, 0, 0);
        }
        countsAre("much", x, 6, 60, 5, 12, 6, 5, 16, 0, 36, 16, 31, 10, 20, 2147483647, 400);
    }

    private void noCount() {
        b.refusedOutside(0, 14, -1, SkySpire::count);
        b.due("of a new one", -1, new SkySpire().count(15));
    }

    // ---- promises 32 and 33

    private void fourImages() {
        SkySpire x = Bounds.told(ONE);
        for (int k = 0; k < 4; k++) {
            b.due("IMAGE " + k, k, x.image(k));
            x.day();
        }
        b.due("a fifth", -1, x.image(4));
        for (int k = 3; k >= 0; k--) {
            b.due("back to " + k, k, x.back(k));
            b.due("its DAY", k, x.count(6));
        }
        x.day();
        x.day();
        b.due("made anew", 2, x.image(1));
        b.due("another stays", 3, x.back(3));
        b.due("the one made anew", 2, x.back(1));
    }

    private void noImage() {
        b.refusedOutside(0, 3, -1, SkySpire::image);
        SkySpire x = new SkySpire();
        b.due("without a SKY", 0, x.image(0));
        b.due("4", -1, x.image(4));
        b.due("-1", -1, x.image(-1));
        b.due("there is one", 0, x.back(0));
        b.due("no ACT", 0, x.count(12));
    }

    private void allBut() {
        SkySpire x = Bounds.busy();
        x.image(0);
        Texts.rule(x, "write 0");
        x.force(2);
        x.undo();
        x.undo();
        x.stay(0);
        x.seed(7);
        x.note(-1, 0, 0);
        x.note(0, 2, -1);
        Texts.sky(x, "sky 6 60;pen 35 0");
        x.day();
        x.feed(0, 0, 0, 0, 0);
        b.due("the DAY", 2, x.back(0));
        countsAre("as it was", x, 2, 3, 3, 2, 3, 1, 2, 1, 2, 1, 4, 1, 4, 5, 20);
        b.due("its NOTE", 2, x.ruled(0));
        b.due("its NOTE", -1, x.ruled(1));
        b.due("BEND can be UNDONE", 3, x.undo());
        b.due("how STIFF it was", 9, x.pen(0, 1));
        b.due("the DAY can be UNDONE", 2, x.undo());
        b.due("no STROKE", 0, x.count(7));
        x = new SkySpire();
        x.image(2);
        Texts.sky(x, ONE);
        b.due("one without a SKY", 0, x.back(2));
        b.due("no SKY", -1, x.sign());
        b.due("no SIDE", 0, x.count(0));
    }

    private void asItWas() {
        SkySpire x = Bounds.busy();
        x.image(3);
        x.day();
        x.undo();
        x.undo();
        x.undo();
        x.day();
        x.day();
        x.back(3);
        b.due("back again", 2, x.back(3));
        SkySpire same = Bounds.busy();
        same.image(3);
        b.alike("with 4 ACTS", same, x);
        b.alike("with 20 ACTS", twenty(false), twenty(true));
    }

    /** Few CELLS and no PEN but one, so that all 20 ACTS can be told in few calls. */
    private static SkySpire twenty(boolean back) {
        SkySpire x = Bounds.told("sky 2 9;pen 0 9");
        for (int i = 1; i <= 21; i++) {
            x.bend(0, i % 9);
        }
        x.image(0);
        for (int i = 0; back && i < 21; i++) {
            x.set(0, (i + 1) % 4);
        }
        if (back) {
            x.back(0);
        }
        return x;
    }

    private void neverMade() {
        b.refusedOutside(0, 3, -1, SkySpire::back);
        for (int k : new int[] {0, 2, 3}) {
            b.refused("IMAGE " + k + " was never made", Bounds::busy, x -> x.back(k), -1);
        }
        b.due("IMAGE 1 was", 1, Bounds.busy().back(1));
        b.refused("of a new one", SkySpire::new, x -> x.back(0), -1);
    }
}
