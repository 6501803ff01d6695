/** Counts the answers that are not due, and what many tests do with a fen. */
final class Due {
    private static int wrong = 0;
    private static int asked = 0;

    private Due() {
    }

    static void is(String call, long got, long want) {
        asked++;
        if (got != want) {
            wrong++;
            System.out.println(call + " answered " + got + ", due is " + want);
        }
    }

    /** Ends the test: with exit code 1, if an answer was not due. */
    static void end() {
        System.out.println(wrong == 0 ? asked + " answers are as due" : wrong + " answers are not as due");
        if (wrong != 0) {
            System.exit(1);
        }
    }

    static int read(DrainedForAThird x, String text) {
        for (int i = 0; i < text.length(); i++) {
            x.feed(text.charAt(i));
        }
        return x.text();
    }

    /** A fen on which the text is THE RULE. */
    static DrainedForAThird ruled(String text) {
        DrainedForAThird x = new DrainedForAThird();
        is("text " + text, read(x, text), 1);
        is("force(1)", x.force(1), 0);
        return x;
    }

    static DrainedForAThird dryRuled() {
        return ruled("rains 0;shrinks 0;calls 0;");
    }

    static void all(DrainedForAThird x, int what, int v) {
        for (int c = 0; c < 12; c++) {
            x.set(what, c, v);
        }
    }

    static void row(DrainedForAThird x, int what, int... values) {
        for (int c = 0; c < values.length; c++) {
            is("set(" + what + ", " + c + ", " + values[c] + ") is taken", x.set(what, c, values[c]) >= 0 ? 1 : 0, 1);
        }
    }

    /** All dry, no rain, and the land falls away from a river of 99 by 8 a cell, so that up to 8 on one stay there. */
    static DrainedForAThird falling() {
        DrainedForAThird x = dryRuled();
        x.set(0, 0, 99);
        all(x, 4, 0);
        for (int c = 0; c < 12; c++) {
            x.set(2, c, 99 - 8 * c);
        }
        return x;
    }

    static int bit(int... cells) {
        int bits = 0;
        for (int c : cells) {
            bits |= 1 << c;
        }
        return bits;
    }
}
