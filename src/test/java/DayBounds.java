/** Promises 7 to 14: PENS and CELLS as they are, a DAY, the other ACTS, and what is UNDONE. */
final class DayBounds {
    private final Bounds b;

    private DayBounds(Bounds b) {
        this.b = b;
    }

    static void run(Bounds b) {
        DayBounds d = new DayBounds(b);
        d.asItIs();
        d.writing();
        d.going();
        d.strokes();
        d.dayItself();
        d.acts();
        d.undone();
    }

    private void asItIs() {
        b.test(7, "Of a PEN what 0: CELL, 1: STIFF, 2: 1 if it is STAYED, else 0, 3: STROKES of its own.", this::pen);
        b.test(7, "NONE without these.", this::noPen);
        b.test(8, "Of a CELL what 0: whose STROKE is in it (NONE: there is none), 1: the DAY of that (NONE likewise), "
            + "2: 1 if it is one of the MARK, else 0.", this::cell);
        b.test(8, "-2 without these.", this::noCell);
    }

    private void writing() {
        b.test(9, "A PEN WRITES, if it is not STAYED and the SUM", this::stayedWriteNot);
        b.test(9, "first CLAUSE without a TEST, or whose TEST holds (0 without), is above 0", this::aboveZero);
        b.test(9, "all by how it is as the DAY begins", this::asTheDayBegins);
        b.test(9, "without a RULE, if it is not STAYED.", this::withoutARule);
    }

    private void going() {
        b.test(9, "as told of the rest of DAY by how many winds there are.", this::windsComeRound);
        b.test(9, "Each PEN that is not STAYED, and not STIFFER than FORCE, goes one CELL on by WAY", this::notStiffer);
        b.test(9, "at the edge it stays where it is.", this::edges);
        b.test(9, "WAY 0: to the row ahead, 1: to the CELL behind in the row, 2: to the row behind, 3: to the CELL ahead "
            + "in the row.", this::ways);
    }

    private void strokes() {
        b.test(9, "In a CELL with one PEN that WRITES there is a STROKE of it, of this DAY, in place of any other.",
            this::oneWrites);
        b.test(9, "In a CELL with more there is none then, and one CLAP more.", this::moreWrite);
        b.test(9, "a STROKE whose DAY is more than FADES less than that is there no more.", this::fades);
    }

    private void dayItself() {
        b.test(9, "who WRITES on it, as bits", this::bits);
        b.test(9, "DAY is 1 more (999 at most)", this::lastDay);
        b.test(9, "NONE, and nothing happens, without a SKY, or at DAY 999.", this::noDay);
    }

    private void acts() {
        b.test(10, "STAY (a PEN is STAYED, or, if it was, no more)", this::stay);
        b.test(10, "NONE, and nothing happens, without that PEN.", this::noStay);
        b.test(11, "SET (a PEN is in another CELL)", this::set);
        b.test(11, "NONE, and nothing happens, without these (another CELL).", this::noSet);
        b.test(12, "BEND (a PEN is as STIFF as told, otherwise than it was)", this::bend);
        b.test(12, "NONE, and nothing happens, without these (0 to 9, another one).", this::noBend);
        b.test(13, "BLOT (a STROKE is there no more)", this::blot);
        b.test(13, "NONE, and nothing happens, without a STROKE there.", this::noBlot);
    }

    private void undone() {
        b.test(14, "The last 20 ACTS can be UNDONE, the last first.", this::last20);
        b.test(14, "The last ACT is UNDONE: how many more can be", this::eachAct);
        b.test(14, "ACTS: a DAY; STAY", this::noActs);
        b.test(14, "-2, and nothing happens: none can.", this::noneCan);
    }

    // ---- as it is

    private void pen() {
        SkySpire x = Bounds.busy();
        int[][] want = {{0, 4, 0, 0}, {3, 0, 0, 1}, {1, 9, 1, 0}};
        for (int pen = 0; pen < 3; pen++) {
            for (int what = 0; what < 4; what++) {
                b.due("PEN " + pen + " what " + what, want[pen][what], x.pen(pen, what));
            }
        }
        x = Bounds.told("sky 2 1" + ";pen 3 0".repeat(5));
        b.due("PEN 4 of 5", 3, x.pen(4, 0));
        b.due("PEN 5 of 5", -1, x.pen(5, 0));
    }

    private void noPen() {
        b.refusedOutside(0, 2, -1, (x, pen) -> x.pen(pen, 0));
        b.refusedOutside(0, 3, -1, (x, what) -> x.pen(0, what));
        b.due("without PENS", -1, Bounds.told("sky 2 1").pen(0, 0));
        b.due("without a SKY", -1, new SkySpire().pen(0, 1));
    }

    private void cell() {
        SkySpire x = Bounds.busy();
        int[][] want = {{-1, -1, 0}, {-1, -1, 0}, {-1, -1, 1}, {1, 1, 0}};
        for (int cell = 0; cell < 4; cell++) {
            for (int what = 0; what < 3; what++) {
                b.due("CELL " + cell + " what " + what, want[cell][what], x.cell(cell, what));
            }
        }
        x = Bounds.told("sky 6 9;pen 35 9");
        x.day();
        b.due("CELL 35 of 36: PEN 0", 0, x.cell(35, 0));
        b.due("CELL 35 of 36: DAY 0", 0, x.cell(35, 1));
        b.due("CELL 36 of 36", -2, x.cell(36, 0));
    }

    private void noCell() {
        b.refusedOutside(0, 3, -2, (x, cell) -> x.cell(cell, 0));
        b.refusedOutside(0, 2, -2, (x, what) -> x.cell(3, what));
        b.due("without a SKY", -2, new SkySpire().cell(0, 2));
    }

    // ---- who writes

    private void stayedWriteNot() {
        SkySpire x = Bounds.by("sky 2 9;pen 0 9;pen 1 9", "write 1");
        b.due("neither STAYED", 3, x.day());
        x.stay(0);
        b.due("one STAYED", 2, x.day());
        x.stay(1);
        b.due("both STAYED", 0, x.day());
        x.stay(0);
        b.due("no more", 1, x.day());
    }

    private void writesBy(String rule, int want) {
        b.due(rule, want, Bounds.by("sky 2 9;pen 0 9", rule).day());
    }

    private void aboveZero() {
        writesBy("write 1", 1);
        writesBy("write 0", 0);
        writesBy("write 0-1", 0);
        writesBy("write 2-1", 1);
        writesBy("write 1-1", 0);
        writesBy("write 1 if 1=2", 0);
        writesBy("write 1 if 1=2;write 1 if 2=3", 0);
        writesBy("write 1 if 1=2;write 1", 1);
        writesBy("write 1 if 1=2;write 0;write 1", 0);
        writesBy("write 0 if 1=1;write 1", 0);
        writesBy("write 1 if 1=1;write 0", 1);
    }

    private void asTheDayBegins() {
        SkySpire x = Bounds.by("sky 3 9;pen 0 0;wind 1 0", "write column");
        b.due("in column 0 as it begins", 0, x.day());
        b.due("in column 1 then", 1, x.pen(0, 0));
        b.due("in column 1 as it begins", 1, x.day());
        x = Bounds.by("sky 2 9;pen 0 9;pen 0 9", "write 1-here");
        b.due("no STROKE as it begins: both", 3, x.day());
        x = Bounds.by("sky 2 9;pen 0 9;pen 1 0;wind 3 0", "write 1-ink");
        b.due("neither has one as it begins", 3, x.day());
        x = Bounds.by("sky 2 1;pen 0 9", "write 1-here");
        x.day();
        b.due("one that fades at its end is there yet", 0, x.day());
        b.due("none as it begins", 1, x.day());
    }

    private void withoutARule() {
        SkySpire x = Bounds.told("sky 2 9;pen 0 9;pen 1 9");
        Texts.rule(x, "write 0");
        b.due("told, not IN FORCE", 3, x.day());
        x.stay(1);
        b.due("one STAYED", 1, x.day());
        x.force(0);
        b.due("IN FORCE", 0, x.day());
        x.force(-1);
        b.due("no more", 1, x.day());
    }

    // ---- where they go

    private void windsComeRound() {
        SkySpire x = Bounds.told("sky 6 9;pen 14 1;wind 2 9" + ";wind 0 0".repeat(10) + ";wind 1 9");
        x.day();
        b.due("the first of 12", 20, x.pen(0, 0));
        Bounds.after(x, 10);
        b.due("the 10 behind it", 20, x.pen(0, 0));
        x.day();
        b.due("the last, on DAY 11", 21, x.pen(0, 0));
        x.day();
        b.due("the first, on DAY 12", 27, x.pen(0, 0));
        Bounds.after(x, 10);
        b.due("the 10 behind it", 27, x.pen(0, 0));
        x.day();
        b.due("the last, on DAY 23", 28, x.pen(0, 0));
        x = Bounds.told("sky 6 9;pen 0 9;wind 1 9");
        Bounds.after(x, 4);
        b.due("one wind each DAY", 4, x.pen(0, 0));
        x = Bounds.told("sky 6 9;pen 0 9;wind 1 9;wind 2 9");
        Bounds.after(x, 5);
        b.due("two by turns", 15, x.pen(0, 0));
    }

    private void notStiffer() {
        for (int force = 0; force <= 9; force++) {
            for (int stiff = 0; stiff <= 9; stiff++) {
                SkySpire x = Bounds.told("sky 2 9;pen 0 " + stiff + ";wind 1 " + force);
                x.day();
                b.due("STIFF " + stiff + " by FORCE " + force, stiff <= force ? 1 : 0, x.pen(0, 0));
            }
        }
        SkySpire x = Bounds.told("sky 2 9;pen 0 0;wind 1 9");
        x.stay(0);
        x.day();
        b.due("STAYED", 0, x.pen(0, 0));
        x.stay(0);
        x.day();
        b.due("no more", 1, x.pen(0, 0));
        x = Bounds.by("sky 2 9;pen 0 0;wind 1 9", "write 0");
        x.day();
        b.due("one that does not write goes too", 1, x.pen(0, 0));
    }

    /** Where a PEN is that goes once by a WAY. */
    private void goes(int side, int cell, int way, int want) {
        SkySpire x = Bounds.told("sky " + side + " 9;pen " + cell + " 0;wind " + way + " 0");
        x.day();
        b.due("SIDE " + side + ", CELL " + cell + ", WAY " + way, want, x.pen(0, 0));
    }

    private void edges() {
        for (int side = 2; side <= 6; side++) {
            for (int i = 0; i < side; i++) {
                goes(side, i, 0, i);
                goes(side, side + i, 0, i);
                goes(side, i * side + side - 1, 1, i * side + side - 1);
                goes(side, i * side + side - 2, 1, i * side + side - 1);
                goes(side, side * (side - 1) + i, 2, side * (side - 1) + i);
                goes(side, side * (side - 2) + i, 2, side * (side - 1) + i);
                goes(side, i * side, 3, i * side);
                goes(side, i * side + 1, 3, i * side);
            }
        }
        SkySpire x = Bounds.told("sky 2 9;pen 3 0;wind 1 0");
        x.day();
        b.due("it WRITES where it stays", 0, x.cell(3, 0));
    }

    private void ways() {
        goes(3, 4, 0, 1);
        goes(3, 4, 1, 5);
        goes(3, 4, 2, 7);
        goes(3, 4, 3, 3);
    }

    // ---- strokes

    private void oneWrites() {
        SkySpire x = Bounds.told("sky 2 9;pen 0 0;pen 1 9;wind 1 0;wind 3 0");
        x.stay(1);
        x.day();
        b.due("where it went to", 0, x.cell(1, 0));
        b.due("none where it was", -1, x.cell(0, 0));
        b.due("of this DAY", 0, x.cell(1, 1));
        x.stay(1);
        x.stay(0);
        x.day();
        b.due("in place of another's", 1, x.cell(1, 0));
        b.due("of this DAY", 1, x.cell(1, 1));
        x.day();
        b.due("in place of its own", 1, x.cell(1, 0));
        b.due("of this DAY", 2, x.cell(1, 1));
        b.due("one STROKE", 1, x.count(7));
        b.due("one with a PEN that does not WRITE: no CLAP", 0, x.count(9));
    }

    private void moreWrite() {
        SkySpire x = Bounds.told("sky 2 9;pen 0 9;pen 0 9;pen 0 9;pen 3 9;pen 3 9");
        x.stay(1);
        x.stay(2);
        x.stay(4);
        x.day();
        b.due("one in each: no CLAP", 0, x.count(9));
        b.due("and STROKES", 2, x.count(7));
        x.stay(1);
        x.day();
        b.due("two in one: one CLAP", 1, x.count(9));
        b.due("what was there is there no more", -1, x.cell(0, 0));
        b.due("the other stays", 3, x.cell(3, 0));
        x.stay(2);
        x.day();
        b.due("three in one: one CLAP more", 2, x.count(9));
        x.stay(4);
        x.day();
        b.due("in two CELLS: two more", 4, x.count(9));
        b.due("no STROKES", 0, x.count(7));
        x = Bounds.told("sky 2 9;pen 0 0;pen 1 9;wind 1 0");
        x.day();
        b.due("where they meet", 1, x.count(9));
        x = Bounds.told("sky 2 9;pen 0 0;pen 1 0;wind 3 0;wind 1 0");
        x.stay(0);
        x.day();
        b.due("one of them did not write", 0, x.count(9));
    }

    private void fades() {
        for (int fades : new int[] {1, 2, 59, 60}) {
            SkySpire x = Bounds.told("sky 2 " + fades + ";pen 0 9");
            x.day();
            x.stay(0);
            Bounds.after(x, fades - 1);
            b.due("FADES " + fades + " less", 0, x.cell(0, 0));
            b.due("its DAY", 0, x.cell(0, 1));
            b.due("ahead", -1, x.ahead(0, 1, 0));
            x.day();
            b.due("FADES " + fades + " and 1 less", -1, x.cell(0, 0));
            b.due("of no DAY", -1, x.cell(0, 1));
            b.due("no STROKE", 0, x.count(7));
        }
    }

    // ---- the day itself

    private void bits() {
        b.due("no PENS", 0, Bounds.told("sky 2 9").day());
        b.due("5 PENS", 31, Bounds.told("sky 2 9" + ";pen 0 9".repeat(5)).day());
        for (int pen = 0; pen < 5; pen++) {
            b.due("PEN " + pen, 1 << pen, Bounds.by("sky 2 9" + ";pen 0 9".repeat(5), "write 1 if pen=" + pen).day());
        }
    }

    // By hand no run of 512 calls comes so far; the sentence holds beyond them all the same.
    private void lastDay() {
        SkySpire x = Bounds.told("sky 2 60;pen 0 9;pen 0 9");
        x.stay(1);
        Bounds.after(x, 998);
        b.due("998", 998, x.count(6));
        b.due("one more", 1, x.day());
        b.due("999", 999, x.count(6));
        b.due("no more", -1, x.day());
        b.due("999 yet", 999, x.count(6));
        b.due("UNDONE", 19, x.undo());
        b.due("998 again", 998, x.count(6));
        b.due("and one more again", 1, x.day());
        b.due("its STROKE", 998, x.cell(0, 1));
    }

    private static SkySpire atDay999() {
        return Bounds.after(Bounds.told("sky 2 60;pen 0 9"), 999);
    }

    private void noDay() {
        b.refused("without a SKY", SkySpire::new, SkySpire::day, -1);
        b.refused("at DAY 999", DayBounds::atDay999, SkySpire::day, -1);
        b.due("with the least SKY", 0, Bounds.told("sky 2 1").day());
    }

    // ---- the other acts

    private void stay() {
        SkySpire x = Bounds.told("sky 2 9" + ";pen 0 9".repeat(5));
        int bits = 0;
        for (int pen = 4; pen >= 0; pen--) {
            bits |= 1 << pen;
            b.due("PEN " + pen, bits, x.stay(pen));
            b.due("STAYED", 1, x.pen(pen, 2));
        }
        b.due("all", 31, x.count(10));
        b.due("PEN 0 no more", 30, x.stay(0));
        b.due("not STAYED", 0, x.pen(0, 2));
        b.due("PEN 4 no more", 14, x.stay(4));
        b.due("ACTS", 7, x.count(12));
    }

    private void noStay() {
        b.refusedOutside(0, 2, -1, SkySpire::stay);
        b.refused("PEN 32", Bounds::busy, x -> x.stay(32), -1);
        b.refused("without PENS", () -> Bounds.told("sky 2 9"), x -> x.stay(0), -1);
        b.refused("without a SKY", SkySpire::new, x -> x.stay(0), -1);
    }

    private void set() {
        SkySpire x = Bounds.told("sky 6 9;pen 7 9;pen 7 9");
        b.due("to the last CELL", 7, x.set(0, 35));
        b.due("is there", 35, x.pen(0, 0));
        b.due("to the first CELL", 35, x.set(0, 0));
        b.due("is there", 0, x.pen(0, 0));
        b.due("to where another is", 0, x.set(0, 7));
        b.due("the other", 7, x.pen(1, 0));
        b.due("ACTS", 3, x.count(12));
    }

    private void noSet() {
        b.refusedOutside(0, 3, -1, (x, cell) -> x.set(0, cell));
        b.refusedOutside(0, 2, -1, (x, pen) -> x.set(pen, 2));
        for (int pen = 0; pen < 3; pen++) {
            int same = pen;
            b.refused("where PEN " + pen + " is", Bounds::busy, x -> x.set(same, x.pen(same, 0)), -1);
        }
        b.refused("without a SKY", SkySpire::new, x -> x.set(0, 0), -1);
    }

    private void bend() {
        SkySpire x = Bounds.told("sky 2 9;pen 0 5;pen 1 5");
        b.due("to 0", 5, x.bend(0, 0));
        b.due("is 0", 0, x.pen(0, 1));
        b.due("to 9", 0, x.bend(0, 9));
        b.due("is 9", 9, x.pen(0, 1));
        b.due("to 8", 9, x.bend(0, 8));
        b.due("the other", 5, x.pen(1, 1));
        b.due("ACTS", 3, x.count(12));
    }

    private void noBend() {
        b.refusedOutside(0, 9, -1, (x, stiff) -> x.bend(0, stiff));
        b.refusedOutside(0, 2, -1, (x, pen) -> x.bend(pen, 5));
        for (int pen = 0; pen < 3; pen++) {
            int same = pen;
            b.refused("as PEN " + pen + " is", Bounds::busy, x -> x.bend(same, x.pen(same, 1)), -1);
        }
        b.refused("without a SKY", SkySpire::new, x -> x.bend(0, 0), -1);
    }

    private void blot() {
        SkySpire x = Bounds.told("sky 6 9;pen 0 9;pen 35 9");
        x.day();
        b.due("in the first CELL", 0, x.blot(0));
        b.due("in the last CELL", 1, x.blot(35));
        b.due("no STROKE", 0, x.count(7));
        b.due("of no DAY", -1, x.cell(35, 1));
        b.due("LIKE", 36, x.count(8));
        b.due("ACTS", 3, x.count(12));
    }

    private void noBlot() {
        b.refusedOutside(0, 3, -1, SkySpire::blot);
        for (int cell = 0; cell < 3; cell++) {
            int empty = cell;
            b.refused("CELL " + cell, Bounds::busy, x -> x.blot(empty), -1);
        }
        b.refused("twice", DayBounds::blotted, x -> x.blot(3), -1);
        b.refused("without a SKY", SkySpire::new, x -> x.blot(0), -1);
    }

    private static SkySpire blotted() {
        SkySpire x = Bounds.busy();
        x.blot(3);
        return x;
    }

    // ---- undone

    private void last20() {
        for (int acts = 19; acts <= 22; acts++) {
            SkySpire x = Bounds.told("sky 6 9;pen 0 9");
            for (int i = 1; i <= acts; i++) {
                x.set(0, i);
            }
            int can = Math.min(acts, 20);
            b.due("of " + acts, can, x.count(12));
            for (int i = 1; i <= can; i++) {
                b.due("how many more", can - i, x.undo());
                b.due("the last first", acts - i, x.pen(0, 0));
            }
            b.due("none more", -2, x.undo());
            b.due("it is as behind the first", acts - can, x.pen(0, 0));
        }
        SkySpire x = Bounds.told("sky 6 9;pen 0 9");
        for (int i = 1; i <= 20; i++) {
            x.set(0, i);
        }
        b.due("one of 20", 19, x.undo());
        x.set(0, 30);
        b.due("20 again", 20, x.count(12));
        x.set(0, 31);
        b.due("20 yet", 20, x.count(12));
    }

    private void eachAct() {
        SkySpire x = Bounds.busy();
        x.blot(3);
        x.set(2, 0);
        b.due("SET", 5, x.undo());
        b.due("where it was", 1, x.pen(2, 0));
        b.due("BLOT", 4, x.undo());
        b.due("whose", 1, x.cell(3, 0));
        b.due("of its DAY", 1, x.cell(3, 1));
        b.due("BEND", 3, x.undo());
        b.due("how STIFF it was", 9, x.pen(0, 1));
        b.due("a DAY", 2, x.undo());
        b.due("DAY", 1, x.count(6));
        b.due("no STROKE", 0, x.count(7));
        b.due("the CLAP", 1, x.count(9));
        b.due("where PEN 1 was", 1, x.pen(1, 0));
        b.due("STAY", 1, x.undo());
        b.due("not STAYED", 0, x.count(10));
        b.due("a DAY", 0, x.undo());
        b.due("DAY 0", 0, x.count(6));
        b.due("no CLAP", 0, x.count(9));
        b.due("the RULE IN FORCE stays", 1, x.count(5));
        b.due("x stays", 5, x.count(13));
        b.due("NOTES stay", 1, x.count(11));
    }

    private void noActs() {
        SkySpire x = Bounds.busy();
        x.force(0);
        x.seed(9);
        x.note(0, 0, -1);
        x.image(0);
        x.feed(0, 0, 0, 0, 0);
        x.rule();
        x.ahead(0, 9, 0);
        b.due("no other call is one", 4, x.count(12));
        b.due("nor UNDONE", 3, x.undo());
        b.due("IN FORCE", 0, x.count(5));
        b.due("x", 9, x.count(13));
        b.due("NOTES", 2, x.count(11));
    }

    private void noneCan() {
        b.refused("without a SKY", SkySpire::new, SkySpire::undo, -2);
        b.refused("of a new SKY", () -> Bounds.told("sky 2 9;pen 0 9"), SkySpire::undo, -2);
        b.refused("when all are", DayBounds::allUndone, SkySpire::undo, -2);
    }

    private static SkySpire allUndone() {
        SkySpire x = Bounds.busy();
        for (int i = 0; i < 4; i++) {
            x.undo();
        }
        return x;
    }
}
