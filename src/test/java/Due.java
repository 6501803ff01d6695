/** Counts the answers that are not due, and what many tests do with a fen. */
final class Due {
    private static int wrong = 0;
    private static int asked = 0;
    private static int sentences = 0;
    private static String sentence = "";

    private Due() {
    }

    /** What the document says, by which the answers that follow are due. */
    static void sentence(String ofTheDocument) {
        sentence = ofTheDocument;
        sentences++;
    }

    static void is(String call, long got, long want) {
        asked++;
        if (got != want) {
            wrong++;
            System.out.println(sentence + ": " + call + " answered " + got + ", due is " + want);
        }
    }

    static void holds(String what, boolean good) {
        asked++;
        if (!good) {
            wrong++;
            System.out.println(sentence + ": " + what + " does not hold");
        }
    }

    /** Ends the test: with exit code 1, if an answer was not due. */
    static void end() {
        System.out.println(wrong == 0 ? asked + " answers by " + sentences + " sentences are as due"
            : wrong + " answers are not as due");
        if (wrong != 0) {
            System.exit(1);
        }
    }

    static int feed(DrainedForAThird x, String text) {
        int size = x.count(6);
        for (int i = 0; i < text.length(); i++) {
            size = x.feed(text.charAt(i));
        }
        return size;
    }

    static int read(DrainedForAThird x, String text) {
        feed(x, text);
        return x.text();
    }

    /** A fen on which the text is THE RULE. */
    static DrainedForAThird ruled(String text) {
        DrainedForAThird x = new DrainedForAThird();
        is("text " + text, read(x, text), 1);
        is("force(1)", x.force(1), 0);
        return x;
    }

    static DrainedForAThird dryRuled() {
        return ruled("rains 0;shrinks 0;calls 0;");
    }

    static void all(DrainedForAThird x, int what, int v) {
        for (int c = 0; c < 12; c++) {
            x.set(what, c, v);
        }
    }

    static void row(DrainedForAThird x, int what, int... values) {
        for (int c = 0; c < values.length; c++) {
            is("set(" + what + ", " + c + ", " + values[c] + ") is taken", x.set(what, c, values[c]) >= 0 ? 1 : 0, 1);
        }
    }

    static void waters(String when, DrainedForAThird x, int... due) {
        for (int c = 0; c < due.length; c++) {
            is(when + ": WATER of " + c, x.told(c, 4), due[c]);
        }
    }

    /** All dry, no rain, and the land falls away from a river of 99 by 8 a cell, so that up to 8 on one stay there. */
    static DrainedForAThird falling() {
        DrainedForAThird x = dryRuled();
        x.set(0, 0, 99);
        all(x, 4, 0);
        for (int c = 0; c < 12; c++) {
            x.set(2, c, 99 - 8 * c);
        }
        return x;
    }

    /** All of one level, no rain, the river as high: so nothing flows. */
    static DrainedForAThird level(int water, int height) {
        DrainedForAThird x = dryRuled();
        all(x, 4, water);
        all(x, 2, height);
        x.set(0, 0, water + height);
        return x;
    }

    /** One hollow, 20 deep, that a MILL (WORK 0) empties in three years by 7 each: DRY are all but 5 twice, then all. */
    static DrainedForAThird emptied() {
        DrainedForAThird x = falling();
        x.set(2, 5, 0);
        x.set(4, 5, 20);
        x.work(2, 2, 5);
        return x;
    }

    /** A BANK (WORK 1) on 4 keeps on 5 what would go: with it 5 is wet, without it 4 is. */
    static DrainedForAThird banked() {
        DrainedForAThird x = falling();
        x.set(2, 4, 0);
        x.set(2, 5, 50);
        x.set(4, 5, 20);
        x.work(0, 9, 9);
        x.work(5, 0, 4);
        return x;
    }

    /** Two hollows on which MILLS draw 13 each, by rain of 14 in years 0 to 3 and 6 on 9, in years 0 and 1 on 5. */
    static DrainedForAThird wetThenDry() {
        DrainedForAThird x = ruled("rains 14*(cell=9 and year<4)+14*(cell=5 and year<2)+14*(cell=9 and year=6);"
            + "shrinks 0;calls 1;");
        all(x, 4, 0);
        all(x, 2, 99);
        x.set(2, 9, 0);
        x.set(2, 5, 0);
        x.set(0, 0, 99);
        x.work(2, 8, 9);
        x.work(2, 8, 5);
        return x;
    }

    static void sheet(DrainedForAThird x, int sheet, int sort, int... items) {
        is("sheet(" + sheet + ", " + sort + ", " + items.length + ")", x.sheet(sheet, sort, items.length), 1);
        for (int i = 0; i < items.length; i++) {
            is("cell(" + sheet + ", " + i + ", " + items[i] + ")", x.cell(sheet, i, items[i]), 1);
        }
    }

    /** What an item of a sheet is, 0 to 9, as the NUMBER of a work that comes by it; -100, if it is no such number. */
    static int digit(DrainedForAThird x, int sheet, int sort, int i) {
        x.image();
        int came = x.works(sheet, sort, i - 1, 1);
        int number = came == 1 ? x.told(x.count(0) - 1, 5) : -100;
        x.back();
        return number;
    }

    /** Items 1 and on; those on both sides of each are 0 .. 5 and 0 .. 11. */
    static void digits(String when, DrainedForAThird x, int sheet, int sort, int... due) {
        for (int i = 0; i < due.length; i++) {
            is(when + ", item " + (i + 1), digit(x, sheet, sort, i + 1), due[i]);
        }
    }

    static int bit(int... cells) {
        int bits = 0;
        for (int c : cells) {
            bits |= 1 << c;
        }
        return bits;
    }
}
