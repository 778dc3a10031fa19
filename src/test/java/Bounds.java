import java.io.IOException;
import java.nio.file.Files;
import java.nio.file.Path;
import java.util.ArrayList;
import java.util.List;
import java.util.function.IntBinaryOperator;
import java.util.function.Supplier;
import java.util.function.ToIntFunction;

/** Tests of single sentences of the document, each named by the number of its promise; and what they share. */
final class Bounds {
    private static final int PROMISES = 33;
    private static final Path DOCUMENT = Path.of("../shared/DOC.md");

    /** A call with one argument left open. */
    interface Asked {
        int of(SkySpire x, int argument);
    }

    private final Texts texts = new Texts();
    private final int[] tests = new int[PROMISES + 1];
    private final String document;
    private String named = "";

    Bounds() throws IOException {
        document = Files.exists(DOCUMENT) ? plain(Files.readString(DOCUMENT)) : "";
    }

    private static String plain(String text) {
        return text.replaceAll("\\s+", " ");
    }

    /** The sentence is the document's own, so that a test can't outlive what it was written for. */
    void test(int promise, String sentence, Runnable body) {
        named = "promise " + promise + ", " + sentence;
        tests[promise]++;
        if (!document.isEmpty()) {
            due("stands in the document", 1, document.contains(plain(sentence)) ? 1 : 0);
        }
        body.run();
    }

    void due(String what, int want, int got) {
        texts.due(named + ": " + what, want, got);
    }

    /** Ends the program if something was wrong, or a promise has no test. */
    void close() {
        int all = 0;
        for (int promise = 1; promise <= PROMISES; promise++) {
            named = "promise " + promise;
            due("has tests", 1, tests[promise] > 0 ? 1 : 0);
            all += tests[promise];
        }
        texts.close("BoundsTest, " + all + " sentences");
    }

    // ---- objects to ask

    static SkySpire told(String sky) {
        SkySpire x = new SkySpire();
        Texts.sky(x, sky);
        return x;
    }

    /** The RULE told is IN FORCE. */
    static SkySpire by(String sky, String rule) {
        SkySpire x = told(sky);
        x.force(Texts.rule(x, rule));
        return x;
    }

    static SkySpire after(SkySpire x, int n) {
        for (int i = 0; i < n; i++) {
            x.day();
        }
        return x;
    }

    /**
     * Some of everything: 3 PENS in 4 CELLS, the third STAYED, a STROKE of PEN 1 in CELL 3, a CLAP, 2 RULES, the
     * second IN FORCE, 4 ACTS, a NOTE that the second is not so by, IMAGE 1 of DAY 1, x 5, DAY 2, bytes on the TAPE.
     */
    static SkySpire busy() {
        SkySpire x = told("sky 2 3;pen 0 9;pen 1 0;pen 1 9;wind 1 4;wind 2 2;mark 2");
        Texts.rule(x, "write 1");
        x.force(Texts.rule(x, "write pen"));
        x.seed(5);
        x.note(1, 0, 0);
        x.day();
        x.stay(2);
        x.image(1);
        x.day();
        x.bend(0, 4);
        Texts.tape(x, "sky 2 5;pen 3");
        return x;
    }

    // ---- that nothing happens

    /** An object of this recipe refuses a call, and nothing happens by it. */
    void refused(String what, Supplier<SkySpire> recipe, ToIntFunction<SkySpire> call, int want) {
        SkySpire x = recipe.get();
        due(what, want, call.applyAsInt(x));
        alike(what, recipe.get(), x);
    }

    /** A busy object refuses each argument below least and above most. */
    void refusedOutside(int least, int most, int want, Asked call) {
        for (int argument : new int[] {Integer.MIN_VALUE, least - 1, most + 1, Integer.MAX_VALUE}) {
            refused(String.valueOf(argument), Bounds::busy, x -> call.of(x, argument), want);
        }
    }

    /** A busy object answers, and nothing changes. */
    void changesNothing(ToIntFunction<SkySpire> call) {
        SkySpire x = busy();
        call.applyAsInt(x);
        alike("nothing changes", busy(), x);
    }

    /** Uses both objects up. */
    void alike(String what, SkySpire one, SkySpire other) {
        due(what + ": all is as it was", 1, traceOf(one).equals(traceOf(other)) ? 1 : 0);
    }

    /** All that can be seen of an object: as it is, as it was, its IMAGES, its RULES, its TAPE. */
    private static List<Integer> traceOf(SkySpire x) {
        List<Integer> trace = new ArrayList<>();
        addPast(trace, x);
        for (int k = 0; k < 4; k++) {
            trace.add(x.back(k));
            if (trace.get(trace.size() - 1) >= 0) {
                addPast(trace, x);
            }
        }
        for (int rule = x.count(4) - 1; rule >= 0; rule--) {
            trace.add(x.force(rule));
            trace.add(x.day());
        }
        trace.add(x.sky());
        addState(trace, x);
        return trace;
    }

    private static void addPast(List<Integer> trace, SkySpire x) {
        addState(trace, x);
        for (int i = x.count(12); i >= 0; i--) {
            trace.add(x.undo());
            addState(trace, x);
        }
    }

    private static void addState(List<Integer> trace, SkySpire x) {
        for (int what = 0; what <= 14; what++) {
            trace.add(x.count(what));
        }
        addTable(trace, x.count(2), 4, x::pen);
        addTable(trace, x.count(0) * x.count(0), 3, x::cell);
        trace.add(x.ruled(0));
        trace.add(x.ruled(1));
    }

    private static void addTable(List<Integer> trace, int rows, int columns, IntBinaryOperator table) {
        for (int row = 0; row < rows; row++) {
            for (int column = 0; column < columns; column++) {
                trace.add(table.applyAsInt(row, column));
            }
        }
    }
}
