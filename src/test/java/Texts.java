import java.nio.charset.StandardCharsets;

/** Puts texts on the TAPE of a SkySpire, and tells what was not as due. */
final class Texts {
    private int wrong;
    private int asked;

    /** The TAPE is this text alone then. */
    static void tape(SkySpire x, String text) {
        byte[] bytes = text.getBytes(StandardCharsets.ISO_8859_1);
        x.end(0);
        for (int from = 0; from < bytes.length; from += 20) {
            x.feed(four(bytes, from), four(bytes, from + 4), four(bytes, from + 8), four(bytes, from + 12),
                four(bytes, from + 16));
        }
        x.end(bytes.length);
    }

    static int sky(SkySpire x, String text) {
        tape(x, text);
        return x.sky();
    }

    static int rule(SkySpire x, String text) {
        tape(x, text);
        return x.rule();
    }

    static int four(byte[] bytes, int from) {
        int number = 0;
        for (int i = from; i < from + 4; i++) {
            number = number << 8 | (i < bytes.length ? bytes[i] & 255 : 0);
        }
        return number;
    }

    /** The answer of sky() and rule() to a FAULT. */
    static int fault(int place, int kind) {
        return -2 - (1 + 8 * place + kind);
    }

    void due(String what, int want, int got) {
        asked++;
        if (got != want) {
            wrong++;
            System.out.println(what + ": answered " + got + ", due is " + want);
        }
    }

    /** Ends the program if something was wrong. */
    void close(String name) {
        System.out.println(name + ": " + (asked - wrong) + " answers as due, " + wrong + " not");
        if (wrong != 0) {
            System.exit(1);
        }
    }
}
