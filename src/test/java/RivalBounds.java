/** Promises 22 to 25 and 30: games, rests, pence, what to read, rain. */
final class RivalBounds {
    // x becomes 65536 * 30 of the one, and 1 less of the other.
    private static final int SEED_OF_30 = 307078787;
    private static final int SEED_BELOW_30 = 596884254;

    private final Bounds b;

    private RivalBounds(Bounds b) {
        this.b = b;
    }

    static void run(Bounds b) {
        RivalBounds r = new RivalBounds(b);
        r.games();
        r.restsAndPence();
        r.reading();
        r.rain();
    }

    private void games() {
        b.test(22, "GAME of two PENS for n turns (1 to 4)", this::turns);
        b.test(22, "each goes one CELL on by any WAY that does not lead over the edge, or stays", this::overTheEdge);
        b.test(22, "leaves a STROKE there in place of any other; nothing fades, nothing claps", this::nothingFades);
        b.test(22, "how many; what the first one does first (stays ahead of WAY 0).", this::staysAhead);
        b.test(22, "GAME what 0: how many (below 0, too), 1: the WAY (NONE: it stays). -1000 without these (unlike).",
            this::noGame);
        b.test(22, "By what is asked nothing changes", () -> b.changesNothing(x -> x.game(0, 1, 4, 0)));
    }

    private void restsAndPence() {
        b.test(23, "RESTS of two PENS for n DAYS (1 to 20)", this::restDays);
        b.test(23, "each is as STIFF as 0, 3, 6 or 9 from now on", this::restStiff);
        b.test(23, "twos by which neither would have more by another one: how many", this::restTwos);
        b.test(23, "the first (by the first one, then the second one).", this::restFirst);
        b.test(23, "RESTS what 0: how many, 1, 2: how STIFF by the first (-2: there is none). NONE without these (unlike).",
            this::noRest);
        b.test(23, "By what is asked nothing changes", () -> b.changesNothing(x -> x.rests(0, 1, 20, 0)));
        b.test(24, "PENCE (0 to 9999) among PENS by STROKES of their own", this::much);
        b.test(24, "each the part downwards; what is left, one each, to those whose part lost most by that, of several the "
            + "least first", this::left);
        b.test(24, "(nothing, if there are none)", this::noStrokes);
        b.test(24, "PENCE of a PEN; NONE without these.", this::noPence);
        b.test(24, "By what is asked nothing changes", () -> b.changesNothing(x -> x.pence(9999, 1)));
    }

    private void reading() {
        b.test(25, "of the SKIES that n DAYS (1 to 60) bring by each of the RULES, and by none", this::readDays);
        b.test(25, "by whether a STROKE is in it, and whose, the most alike are fewest; of several the least: how many.",
            this::mostAlike);
        b.test(25, "READ what 0: the CELL, 1: how many. NONE without these, or a SKY.", this::noRead);
        b.test(25, "By what is asked nothing changes", () -> b.changesNothing(x -> x.read(60, 0)));
    }

    private void rain() {
        b.test(30, "RAINS m times (1 to 10)", this::rainTimes);
        b.test(30, "n DAYS (1 to 60) from now on", this::rainDays);
        b.test(30, "ahead of each a DRAW mod 100; is it below p (0 to 100)", this::rainChance);
        b.test(30, "a DRAW mod how many CELLS there are: a STROKE in that one is there no more", this::rainCell);
        b.test(30, "x (0 to 2147483647; 0 at first) becomes x * 1103515245 + 12345, of 2147483648 the rest; a DRAW is "
            + "x / 65536.", this::rainDraws);
        b.test(30, "how LIKE it is at the end; how many CLAPS there were in these, all together (x as it was).",
            this::rainTogether);
        b.test(30, "RAINS what 0: how LIKE, 1: CLAPS. NONE without these, or a SKY.", this::noRain);
        b.test(30, "By what is asked nothing changes", () -> b.changesNothing(x -> x.rains(10, 60, 100, 0)));
    }

    // ---- promise 22

    private void gameIs(String what, SkySpire x, int n, int many, int way) {
        b.due(what + ": how many", many, x.game(0, 1, n, 0));
        b.due(what + ": the WAY", way, x.game(0, 1, n, 1));
    }

    private void turns() {
        SkySpire x = Bounds.told("sky 2 9;pen 0 9;pen 3 9");
        gameIs("1", x, 1, 1, -1);
        gameIs("2", x, 2, 0, -1);
        gameIs("3", x, 3, 1, -1);
        gameIs("4", x, 4, -1, -1);
        gameIs("in 36 CELLS", Bounds.told("sky 6 9;pen 0 9;pen 35 9"), 1, 1, -1);
        x = Bounds.told("sky 3 60;pen 0 9;pen 8 9");
        for (int cell : new int[] {1, 3, 0}) {
            x.set(0, cell);
            x.day();
        }
        gameIs("3, by way of its own STROKE", x, 3, 2, 1);
        b.refusedOutside(1, 4, -1000, (y, n) -> y.game(0, 1, n, 0));
        b.refusedOutside(1, 4, -1000, (y, n) -> y.game(0, 1, n, 1));
    }

    private void overTheEdge() {
        int[][] cellAndWay = {{0, 1}, {1, 1}, {2, 2}, {3, 0}, {5, 0}, {6, 0}, {7, 0}, {8, 0}};
        for (int[] two : cellAndWay) {
            SkySpire x = Bounds.told("sky 3 9;pen " + two[0] + " 9;pen 4 9");
            x.day();
            x.blot(4);
            gameIs("from " + two[0], x, 1, 2, two[1]);
        }
        SkySpire x = Bounds.told("sky 3 9;pen 4 9;pen 1 9;pen 5 9;pen 7 9;pen 3 9");
        x.day();
        for (int other = 1; other < 5; other++) {
            b.due("to PEN " + other, 2, x.game(0, other, 1, 0));
            b.due("to PEN " + other, other - 1, x.game(0, other, 1, 1));
        }
    }

    private void nothingFades() {
        SkySpire x = Bounds.told("sky 3 2;pen 0 0;pen 8 9;wind 1 0");
        x.day();
        x.day();
        gameIs("STROKES of two DAYS", x, 1, 2, 2);
        x = Bounds.told("sky 2 9;pen 0 9;pen 0 9");
        gameIs("both in one CELL", x, 1, 1, -1);
        gameIs("the second one takes it", x, 2, -1, -1);
    }

    private void staysAhead() {
        gameIs("all alike", Bounds.told("sky 3 9;pen 4 9;pen 8 9"), 1, 1, -1);
        SkySpire x = Bounds.told("sky 3 9;pen 4 9;pen 8 9");
        x.day();
        gameIs("WAYS alike, staying less", x, 1, 1, 0);
        b.due("the other first", 0, x.game(1, 0, 1, 1));
        b.due("how many", 1, x.game(1, 0, 1, 0));
    }

    private void noGame() {
        b.refusedOutside(0, 2, -1000, (x, one) -> x.game(one, 1, 1, 0));
        b.refusedOutside(0, 2, -1000, (x, other) -> x.game(1, other, 1, 0));
        b.refusedOutside(0, 1, -1000, (x, what) -> x.game(0, 1, 1, what));
        for (int pen = 0; pen < 3; pen++) {
            int same = pen;
            b.refused("PEN " + pen + " with itself", Bounds::busy, x -> x.game(same, same, 1, 0), -1000);
        }
        b.due("the last with the first", 1, Bounds.busy().game(2, 0, 1, 0));
        b.due("without a SKY", -1000, new SkySpire().game(0, 1, 1, 0));
        SkySpire x = Bounds.told("sky 3 9;pen 0 9;pen 8 0;wind 3 0");
        x.stay(0);
        x.day();
        x.day();
        b.due("below 0", -1, x.game(0, 1, 1, 0));
    }

    // ---- promise 23

    private static SkySpire restsOn(int day) {
        // By FORCE 5 the first goes to the second, if it is as STIFF as 0 or 3, and they clap.
        return Bounds.by("sky 2 60;pen 0 9;pen 1 9;wind 1 5", "write 1 if day=" + day);
    }

    private void restsAre(String what, SkySpire x, int n, int many, int first, int second) {
        b.due(what + ": how many", many, x.rests(0, 1, n, 0));
        b.due(what + ": the first one", first, x.rests(0, 1, n, 1));
        b.due(what + ": the second one", second, x.rests(0, 1, n, 2));
    }

    private void restDays() {
        restsAre("1", restsOn(0), 1, 8, 6, 0);
        restsAre("1, of the second", restsOn(1), 1, 16, 0, 0);
        restsAre("2, of the second", restsOn(1), 2, 8, 6, 0);
        restsAre("19", restsOn(19), 19, 16, 0, 0);
        restsAre("20", restsOn(19), 20, 8, 6, 0);
        b.refusedOutside(1, 20, -1, (x, n) -> x.rests(0, 1, n, 0));
        b.refusedOutside(1, 20, -1, (x, n) -> x.rests(0, 1, n, 2));
    }

    private void restStiff() {
        for (int force = 0; force <= 9; force++) {
            SkySpire x = Bounds.told("sky 2 60;pen 0 9;pen 1 9;wind 1 " + force);
            int stiffer = 3 - force / 3;
            int least = force / 3 * 3 + 3;
            restsAre("FORCE " + force, x, 1, stiffer == 0 ? 16 : stiffer * 4, stiffer == 0 ? 0 : least, 0);
            b.due("FORCE " + force + ", the second", stiffer == 0 ? 0 : least, x.rests(1, 0, 1, 2));
            // The first goes on and writes in two CELLS, if it is not STIFFER.
            x = Bounds.told("sky 3 60;pen 0 9;pen 8 9;wind 1 " + force);
            restsAre("on by FORCE " + force, x, 2, 16 - stiffer * 4, 0, 0);
            b.due("on by FORCE " + force + ", the second", 16 - stiffer * 4, x.rests(1, 0, 2, 0));
        }
        restsAre("each has one", Bounds.told("sky 2 1;pen 0 0;pen 3 0;wind 1 9"), 20, 16, 0, 0);
    }

    /** By 0 or 3 a PEN goes each DAY, by 6 or 9 on the second alone. */
    private static SkySpire chase() {
        return Bounds.by("sky 4 5;pen 2 9;pen 3 9;wind 3 3;wind 3 9", "write column+pen");
    }

    private void restTwos() {
        // Both go: 1 and 1; the second alone: they clap; the first alone: 1 and 1; neither: 1 and 1.
        restsAre("one DAY", chase(), 1, 12, 0, 0);
        b.due("one DAY, the other way round", 12, chase().rests(1, 0, 1, 0));
        // Both go: 1 and 2; the second alone: they clap; the first alone: 2 and 2; neither: 1 and 2.
        restsAre("two DAYS", chase(), 2, 8, 0, 0);
        b.due("two DAYS, the other way round", 8, chase().rests(1, 0, 2, 0));
        // Both go: 0 and 3; the second alone: 1 and 1; the first alone: 2 and 2; neither: 1 and 2.
        restsAre("three DAYS", chase(), 3, 0, -2, -2);
        b.due("three DAYS, the other way round", 0, chase().rests(1, 0, 3, 0));
    }

    private void restFirst() {
        SkySpire x = restsOn(0);
        b.due("the other way round", 8, x.rests(1, 0, 1, 0));
        b.due("by the first one", 0, x.rests(1, 0, 1, 1));
        b.due("then the second one", 6, x.rests(1, 0, 1, 2));
    }

    private void noRest() {
        restsAre("there is none", chase(), 3, 0, -2, -2);
        b.refusedOutside(0, 2, -1, (y, one) -> y.rests(one, 1, 1, 0));
        b.refusedOutside(0, 2, -1, (y, other) -> y.rests(1, other, 1, 0));
        b.refusedOutside(0, 2, -1, (y, what) -> y.rests(0, 1, 1, what));
        for (int pen = 0; pen < 3; pen++) {
            int same = pen;
            b.refused("PEN " + pen + " with itself", Bounds::busy, y -> y.rests(same, same, 1, 0), -1);
        }
        b.due("without a SKY", -1, new SkySpire().rests(0, 1, 1, 0));
    }

    // ---- promise 24

    private void penceAre(String what, SkySpire x, int much, int... want) {
        for (int pen = 0; pen < want.length; pen++) {
            b.due(what + ": PEN " + pen, want[pen], x.pence(much, pen));
        }
    }

    private void much() {
        SkySpire x = Bounds.told("sky 2 9;pen 0 9;pen 1 9;pen 2 9");
        x.day();
        penceAre("0", x, 0, 0, 0, 0);
        penceAre("1", x, 1, 1, 0, 0);
        penceAre("9998", x, 9998, 3333, 3333, 3332);
        penceAre("9999", x, 9999, 3333, 3333, 3333);
        x = Bounds.told("sky 6 60;pen 35 9");
        x.day();
        penceAre("9999 to one", x, 9999, 9999);
        b.refusedOutside(0, 9999, -1, (y, much) -> y.pence(much, 0));
        b.refusedOutside(0, 9999, -1, (y, much) -> y.pence(much, 1));
    }

    private void left() {
        SkySpire x = Bounds.told("sky 2 9;pen 0 9;pen 1 9;pen 2 9");
        x.day();
        penceAre("none left", x, 9, 3, 3, 3);
        penceAre("one left, all lost as much", x, 10, 4, 3, 3);
        penceAre("two left, all lost as much", x, 11, 4, 4, 3);
        x = Bounds.told("sky 3 9;pen 8 9;pen 0 0;wind 1 0");
        x.day();
        x.day();
        penceAre("of 1 and 2: lost 1 and 2 thirds", x, 1, 0, 1);
        penceAre("of 1 and 2: lost 2 and 1 thirds", x, 2, 1, 1);
        penceAre("of 1 and 2: nothing lost", x, 3, 1, 2);
    }

    private void noStrokes() {
        SkySpire x = Bounds.told("sky 2 9;pen 0 9;pen 1 9");
        penceAre("none at all", x, 9999, 0, 0);
        x.stay(0);
        x.day();
        penceAre("none of one", x, 9999, 0, 9999);
        x.blot(1);
        penceAre("BLOTTED", x, 9999, 0, 0);
    }

    private void noPence() {
        b.refusedOutside(0, 2, -1, (x, pen) -> x.pence(1, pen));
        b.due("the last PEN", 0, Bounds.busy().pence(1, 2));
        b.due("without a SKY", -1, new SkySpire().pence(0, 0));
    }

    // ---- promise 25

    private void readIs(String what, SkySpire x, int n, int cell, int many) {
        b.due(what + ": the CELL", cell, x.read(n, 0));
        b.due(what + ": how many", many, x.read(n, 1));
    }

    private void readDays() {
        SkySpire x = Bounds.by("sky 2 60;pen 3 9", "write 1 if day=59");
        readIs("59", x, 59, 3, 1);
        readIs("60", x, 60, 0, 2);
        x = Bounds.by("sky 2 60;pen 3 9", "write day");
        readIs("1", x, 1, 3, 1);
        readIs("2", x, 2, 0, 2);
        readIs("no RULES: by none", Bounds.told("sky 2 60;pen 3 9"), 1, 0, 1);
        b.refusedOutside(1, 60, -1, (y, n) -> y.read(n, 0));
        b.refusedOutside(1, 60, -1, (y, n) -> y.read(n, 1));
    }

    private void mostAlike() {
        SkySpire x = Bounds.told("sky 3 9;pen 8 9;pen 7 9;pen 6 9;pen 5 9;pen 4 9");
        for (int i = 0; i < 6; i++) {
            Texts.rule(x, "write 1 if pen=" + i);
        }
        readIs("5 of 7 alike in each of 5 CELLS: the least", x, 1, 4, 5);
        x = Bounds.told("sky 2 9;pen 3 9;pen 3 9");
        Texts.rule(x, "write pen");
        Texts.rule(x, "write 1-pen");
        readIs("none, one's, the other's", x, 1, 3, 1);
        x = Bounds.told("sky 2 9;pen 3 9");
        for (int i = 0; i < 6; i++) {
            Texts.rule(x, "write 1");
        }
        readIs("all 7 alike", x, 1, 0, 7);
        x = Bounds.told("sky 6 9;pen 35 9");
        Texts.rule(x, "write 0");
        readIs("the last of 36", x, 1, 35, 1);
        x = Bounds.by("sky 6 9" + ";pen 0 9".repeat(4) + ";pen 35 9", "write 1 if pen=4");
        readIs("the last PEN's in the last of 36, alike", x, 1, 0, 2);
    }

    private void noRead() {
        b.refusedOutside(0, 1, -1, (x, what) -> x.read(1, what));
        b.due("without a SKY", -1, new SkySpire().read(1, 0));
        b.due("without a SKY", -1, new SkySpire().read(1, 1));
    }

    // ---- promise 30

    /** A STROKE in each of 4 CELLS, all PENS STAYED, no MARK: so LIKE tells how many were washed out. */
    private static SkySpire full(int x) {
        SkySpire full = Bounds.told("sky 2 60;pen 0 9;pen 1 9;pen 2 9;pen 3 9");
        full.day();
        for (int pen = 0; pen < 4; pen++) {
            full.stay(pen);
        }
        full.seed(x);
        return full;
    }

    private void rainTimes() {
        b.due("1", 1, full(0).rains(1, 1, 100, 0));
        b.due("10", 10, full(0).rains(10, 1, 100, 0));
        b.refusedOutside(1, 10, -1, (x, m) -> x.rains(m, 1, 100, 0));
        b.refusedOutside(1, 10, -1, (x, m) -> x.rains(m, 1, 100, 1));
    }

    private void rainDays() {
        SkySpire x = Bounds.told("sky 2 60;pen 0 9;pen 0 9");
        b.due("1: CLAPS", 1, x.rains(1, 1, 0, 1));
        b.due("60: CLAPS", 60, x.rains(1, 60, 0, 1));
        x = Bounds.by("sky 2 60;pen 3 9;mark 3", "write 1 if day=59");
        b.due("59: LIKE", 3, x.rains(1, 59, 100, 0));
        b.due("60: LIKE", 4, x.rains(1, 60, 100, 0));
        b.refusedOutside(1, 60, -1, (y, n) -> y.rains(1, n, 100, 0));
    }

    private void rainChance() {
        b.due("0 is not below 0", 0, full(0).rains(1, 1, 0, 0));
        b.due("0 is below 1", 1, full(0).rains(1, 1, 1, 0));
        b.due("99 is not below 99", 0, full(194).rains(1, 1, 99, 0));
        b.due("99 is below 100", 1, full(194).rains(1, 1, 100, 0));
        b.due("p 0: never", 0, full(0).rains(10, 59, 0, 0));
        b.due("0, then 88, not below 88", 1, full(0).rains(1, 2, 88, 0));
        b.due("0, then 88, below 89", 2, full(0).rains(1, 2, 89, 0));
        b.refusedOutside(0, 100, -1, (x, p) -> x.rains(1, 1, p, 0));
        SkySpire x = Bounds.told("sky 2 60;pen 0 9");
        b.due("ahead of the DAY: its STROKE stays", 3, x.rains(1, 1, 100, 0));
    }

    /** Whether the first rain from x 5 washes out the STROKE of a CELL; the second DRAW is 8457. */
    private void washed(int side, int cell, boolean want) {
        SkySpire x = Bounds.told("sky " + side + " 60;pen " + cell + " 9");
        x.day();
        x.stay(0);
        x.seed(5);
        b.due("SIDE " + side + ", CELL " + cell, side * side - (want ? 0 : 1), x.rains(1, 1, 100, 0));
    }

    private void rainCell() {
        for (int side = 2; side <= 6; side++) {
            int cell = 8457 % (side * side);
            washed(side, cell, true);
            washed(side, (cell + 1) % (side * side), false);
            washed(side, (cell + side * side - 1) % (side * side), false);
        }
    }

    private void rainDraws() {
        b.due("of 2147483647: 29 is not below 29", 0, full(2147483647).rains(1, 1, 29, 0));
        b.due("of 2147483647: 29 is below 30", 1, full(2147483647).rains(1, 1, 30, 0));
        b.due("of 2147483646: 59 is not below 59", 0, full(2147483646).rains(1, 1, 59, 0));
        b.due("of 2147483646: 59 is below 60", 1, full(2147483646).rains(1, 1, 60, 0));
        b.due("0 at first", 0, new SkySpire().count(13));
        b.due("x 65536 * 30 - 1: 29 is not below 29", 0, full(SEED_BELOW_30).rains(1, 1, 29, 0));
        b.due("x 65536 * 30 - 1: 29 is below 30", 1, full(SEED_BELOW_30).rains(1, 1, 30, 0));
        b.due("x 65536 * 30: 30 is not below 30", 0, full(SEED_OF_30).rains(1, 1, 30, 0));
        b.due("x 65536 * 30: 30 is below 31", 1, full(SEED_OF_30).rains(1, 1, 31, 0));
        // From 0 the DRAWS are 0, 21468, 9988, 22117, 3498, 16927, 16045, 19741: CELLS 0, 1, 3, 1.
        b.due("3 DAYS from 0", 3, full(0).rains(1, 3, 100, 0));
        b.due("4 DAYS from 0: one again", 3, full(0).rains(1, 4, 100, 0));
    }

    private void rainTogether() {
        SkySpire x = full(0);
        // The first summer draws 0 and its CELL, the second one 88.
        b.due("one", 1, x.rains(1, 1, 46, 0));
        b.due("two, x goes on", 1, x.rains(2, 1, 46, 0));
        b.due("x as it was", 0, x.count(13));
        b.due("and again", 1, x.rains(1, 1, 46, 0));
        x = Bounds.told("sky 2 60;pen 0 9;pen 0 9;mark 3");
        x.day();
        b.due("LIKE of ten", 30, x.rains(10, 60, 100, 0));
        b.due("CLAPS of ten", 600, x.rains(10, 60, 100, 1));
        b.due("CLAPS of one", 1, x.rains(1, 1, 100, 1));
        b.due("CLAPS as they were", 1, x.count(9));
    }

    private void noRain() {
        b.refusedOutside(0, 1, -1, (x, what) -> x.rains(1, 1, 0, what));
        b.due("without a SKY", -1, new SkySpire().rains(1, 1, 0, 0));
        b.due("without a SKY", -1, new SkySpire().rains(1, 1, 0, 1));
    }
}
