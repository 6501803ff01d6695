/** Promise 16: tells. */
public final class Promise16TellsTest {
    private static final int NONE = -1;
    private static final int BAD = -2;
    private static final int NOTHING = -11;
    private static final int ALL = 4095;
    private static final int WET = ALL - Due.bit(5);
    private static final int LOWEST = Integer.MIN_VALUE;
    private static final int HIGHEST = Integer.MAX_VALUE;

    public static void main(String[] args) {
        firstOther();
        noneOther();
        bytesAndShorts();
        texts();
        sixTexts();
        rivers();
        riversOfNone();
        riverOfZero();
        kinds();
        numbers();
        cells();
        ofNoWorkThatGoes();
        nothingTold();
        thirtyAtMost();
        behindTheLastYear();
        noSuchSheet();
        noSuchWhat();
        noSuchWork();
        missing();
        badAheadOfNothing();
        nothingAheadOfTooMany();
        keeps();
        Due.end();
    }

    private static void firstOther() {
        Due.sentence("the first number (from 0) that is otherwise");
        DrainedForAThird x = Due.emptied();
        Due.sheet(x, 0, 2, ALL, WET, ALL, ALL);
        Due.is("behind the first YEAR", x.tells(0, 0), 0);
        Due.sheet(x, 0, 2, WET, ALL, ALL, ALL);
        Due.is("behind the second", x.tells(0, 0), 1);
        Due.sheet(x, 0, 2, WET, WET, WET, WET);
        Due.is("behind the third", x.tells(0, 0), 2);
        Due.sheet(x, 0, 2, WET, WET, ALL, 0);
        Due.is("at last", x.tells(0, 0), 3);
        Due.sheet(x, 0, 2, WET, WET, ALL + 4096);
        Due.is("a bit more", x.tells(0, 0), 2);
        Due.sheet(x, 0, 2, WET, WET, ALL + 65536);
        Due.is("a high bit more", x.tells(0, 0), 2);
        Due.sheet(x, 0, 2, WET, WET, ALL | LOWEST);
        Due.is("the highest bit more", x.tells(0, 0), 2);
        Due.sheet(x, 0, 2, -1);
        Due.is("a number below 0", x.tells(0, 0), 0);
        Due.is("THE YEAR", x.count(3), 0);
        Due.is("WATER", x.told(5, 4), 20);
    }

    private static void noneOther() {
        Due.sentence("TOLD: the first number that is otherwise (what 0; NONE)");
        DrainedForAThird x = Due.emptied();
        Due.sheet(x, 0, 2, WET, WET, ALL, ALL);
        Due.is("all are so", x.tells(0, 0), NONE);
        Due.sheet(x, 1, 1, WET);
        Due.is("one is so", x.tells(1, 0), NONE);
    }

    private static void bytesAndShorts() {
        Due.sentence("a SHEET tells DRY CELLS (bits); of bytes, shorts its lowest 8, 16 bits");
        DrainedForAThird x = Due.emptied();
        Due.sheet(x, 0, 1, WET, WET + 65536, ALL - 65536);
        Due.is("shorts", x.tells(0, 0), NONE);
        DrainedForAThird y = Due.falling();
        for (int c = 7; c < 12; c++) {
            y.set(4, c, 1);
        }
        Due.sheet(y, 0, 0, 127, 127 + 256);
        Due.is("bytes", y.tells(0, 0), NONE);
        y.set(4, 7, 0);
        Due.sheet(y, 0, 0, 255);
        Due.is("a byte of 255 is -1", y.tells(0, 0), 0);
        Due.sheet(y, 0, 1, 255);
        Due.is("a short of 255", y.tells(0, 0), NONE);
    }

    private static void texts() {
        Due.sentence("TEXTS (bits), were they THE RULE, by which all would be so");
        DrainedForAThird x = Due.emptied();
        Due.read(x, "rains 0;shrinks 0;calls 9;");
        Due.read(x, "rains 7*(cell=5);shrinks 0;calls 9;");
        Due.read(x, "rains 7*(cell=5)*(1<year);shrinks 0;calls 9;");
        Due.sheet(x, 0, 1, WET, WET);
        Due.is("two years, all but TEXT 0", x.tells(0, 1), Due.bit(1, 2, 3, 4));
        Due.sheet(x, 0, 1, WET, WET, ALL);
        Due.is("three years, those without rain", x.tells(0, 1), Due.bit(1, 2));
        Due.sheet(x, 0, 1, WET, WET, WET);
        Due.is("three years, those with rain, though none of them is THE RULE", x.tells(0, 1), Due.bit(3, 4));
        Due.sheet(x, 0, 1, -1);
        Due.is("none", x.tells(0, 1), 0);
        Due.is("THE RULE", x.count(7), 1);
    }

    private static void sixTexts() {
        Due.sentence("There are 6 TEXTS at most, TEXT 0 with them");
        DrainedForAThird x = new DrainedForAThird();
        Due.sheet(x, 0, 1, 0);
        for (int t = 1; t <= 5; t++) {
            Due.is("of " + t, x.tells(0, 1), (1 << t) - 1);
            Due.read(x, "rains " + t + ";shrinks 1;calls 1;");
        }
        Due.is("of 6", x.tells(0, 1), 63);
    }

    private static DrainedForAThird lowered() {
        DrainedForAThird x = Due.falling();
        x.set(2, 0, 50);
        return x;
    }

    private static void rivers() {
        Due.sentence("RIVERS (of 0 .. 99: how many, the highest)");
        DrainedForAThird x = lowered();
        Due.sheet(x, 0, 2, ALL);
        Due.is("rivers that leave it dry", x.tells(0, 2), 52);
        Due.is("the highest of these", x.tells(0, 3), 51);
        Due.sheet(x, 0, 2, ALL - 1);
        Due.is("rivers that come", x.tells(0, 2), 48);
        Due.is("the highest of those", x.tells(0, 3), 99);
        Due.is("RIVER", x.told(0, 0), 99);
    }

    private static void riversOfNone() {
        Due.sentence("RIVERS: how many (2), the highest (3; NONE)");
        DrainedForAThird x = lowered();
        Due.sheet(x, 0, 2, ALL - 1, ALL);
        Due.is("none", x.tells(0, 2), 0);
        Due.is("the highest of none", x.tells(0, 3), NONE);
    }

    private static void riverOfZero() {
        Due.sentence("RIVERS (of 0 .. 99: how many, the highest)");
        DrainedForAThird y = Due.falling();
        y.set(2, 5, 1);
        y.set(4, 5, 2);
        y.work(1, 1, 5);
        Due.sheet(y, 0, 2, ALL);
        Due.is("a river of 0 alone", y.tells(0, 2), 1);
        Due.is("0 is the highest", y.tells(0, 3), 0);
        Due.sheet(y, 0, 2, WET);
        Due.is("all but a river of 0", y.tells(0, 2), 99);
        Due.is("99 is the highest", y.tells(0, 3), 99);
    }

    private static void kinds() {
        Due.sentence("KINDS (bits 0 .. 5) of WORK what modulo 10 (10 ..)");
        DrainedForAThird x = Due.emptied();
        // 20 less 2 (0), 7 (2), 14 (4), none (5); a CUT or a SLUICE below the river as a WORK.
        Due.sheet(x, 0, 1, WET, WET, ALL);
        Due.is("a MILL", x.tells(0, 10), Due.bit(2));
        Due.sheet(x, 0, 1, WET, ALL);
        Due.is("a TALL", x.tells(0, 10), Due.bit(4));
        Due.sheet(x, 0, 1, WET, WET, WET);
        Due.is("those that draw less", x.tells(0, 10), Due.bit(0, 1, 3, 5));
        Due.sheet(x, 0, 1, WET, WET, WET, WET, WET, WET, WET, WET, WET, ALL);
        Due.is("those that draw 2, in ten years", x.tells(0, 10), Due.bit(0, 1));
        Due.sheet(x, 0, 1, WET, WET, WET, WET, WET, WET, WET, WET, WET, WET, WET, WET, WET, ALL);
        Due.is("a SLUICE rests in each third year", x.tells(0, 10), Due.bit(3));
        Due.sheet(x, 0, 1, 0);
        Due.is("none", x.tells(0, 10), 0);
        Due.is("KIND", x.told(0, 8), 2);
    }

    private static void numbers() {
        Due.sentence("NUMBERS (bits 0 .. 9) of WORK what modulo 10 (20 ..)");
        DrainedForAThird x = Due.emptied();
        Due.sheet(x, 0, 1, WET, WET, ALL);
        // 5 more than the NUMBER, three times, are 20 or more; twice they are less.
        Due.is("in three years", x.tells(0, 20), Due.bit(2, 3, 4));
        Due.sheet(x, 0, 1, WET, WET);
        Due.is("not in two years", x.tells(0, 20), Due.bit(0, 1, 2, 3, 4));
        Due.sheet(x, 0, 1, WET, ALL);
        Due.is("in two years", x.tells(0, 20), Due.bit(5, 6, 7, 8, 9));
        x.set(4, 5, 14);
        Due.sheet(x, 0, 1, ALL);
        Due.is("the highest", x.tells(0, 20), Due.bit(9));
        Due.sheet(x, 0, 1, 0);
        Due.is("none", x.tells(0, 20), 0);
        Due.is("NUMBER", x.told(0, 5), 2);
    }

    private static void cells() {
        Due.sentence("CELLS (bits 0 .. 11) of WORK what modulo 10 (30 ..)");
        DrainedForAThird x = Due.emptied();
        Due.sheet(x, 0, 1, WET, WET, ALL);
        Due.is("its own", x.tells(0, 30), Due.bit(5));
        Due.sheet(x, 0, 1, WET, WET, WET);
        Due.is("all others", x.tells(0, 30), ALL - Due.bit(5));
        Due.is("CELL", x.told(0, 6), 5);
        DrainedForAThird y = Due.emptied();
        y.set(4, 5, 10);
        y.work(4, 0, 9);
        y.set(7, 0, 0);
        Due.sheet(y, 0, 1, ALL);
        // A TALL draws from the cells beside its own, too.
        Due.is("of a TALL", y.tells(0, 31), Due.bit(4, 5, 6));
        Due.is("CELL of it", y.told(1, 6), 9);
    }

    private static void ofNoWorkThatGoes() {
        Due.sentence("KINDS, NUMBERS, CELLS of a WORK by which all would be so");
        DrainedForAThird x = Due.emptied();
        x.set(7, 0, 0);
        Due.sheet(x, 0, 1, WET, WET);
        Due.is("KINDS of what does not go", x.tells(0, 10), 63);
        Due.is("NUMBERS of what does not go", x.tells(0, 20), 1023);
        Due.is("CELLS of what does not go", x.tells(0, 30), ALL);
        Due.sheet(x, 0, 1, ALL);
        Due.is("no KINDS of what does not go", x.tells(0, 10), 0);
    }

    private static void nothingTold() {
        Due.sentence("a SHEET tells DRY CELLS (bits) behind 1, 2, .. YEARS (30 at most)");
        DrainedForAThird x = new DrainedForAThird();
        x.work(0, 0, 0);
        for (int sort = 0; sort < 3; sort++) {
            Due.sheet(x, 3, sort);
            Due.is("what is otherwise", x.tells(3, 0), NONE);
            Due.is("TEXTS", x.tells(3, 1), 1);
            Due.is("RIVERS", x.tells(3, 2), 100);
            Due.is("the highest", x.tells(3, 3), 99);
            Due.is("KINDS", x.tells(3, 10), 63);
            Due.is("NUMBERS", x.tells(3, 20), 1023);
            Due.is("CELLS", x.tells(3, 30), ALL);
        }
    }

    private static void thirtyAtMost() {
        Due.sentence("BAD: it tells more than 30");
        DrainedForAThird x = new DrainedForAThird();
        x.work(0, 0, 0);
        int[] whats = {0, 1, 2, 3, 10, 20, 30};
        for (int sort = 0; sort < 3; sort++) {
            x.sheet(0, sort, 31);
            x.sheet(1, sort, 30);
            x.sheet(2, sort, 40);
            for (int what : whats) {
                Due.is("31, what " + what, x.tells(0, what), BAD);
                Due.holds("30, what " + what, x.tells(1, what) != BAD);
                Due.is("40, what " + what, x.tells(2, what), BAD);
            }
        }
        Due.is("30 are so", x.tells(1, 0), NONE);
        x.cell(1, 29, 1);
        Due.is("the last of 30 is otherwise", x.tells(1, 0), 29);
    }

    private static void behindTheLastYear() {
        Due.sentence("(there YEAR may pass 999)");
        DrainedForAThird x = Due.emptied();
        x.set(1, 0, 999);
        Due.sheet(x, 0, 1, WET, WET, ALL);
        Due.is("from 999", x.tells(0, 0), NONE);
        Due.is("THE YEAR", x.count(3), 999);
    }

    private static void noSuchSheet() {
        Due.sentence("BAD: SHEET");
        DrainedForAThird x = Twin.full();
        int[] wrong = {-1, 4, LOWEST, HIGHEST};
        for (int sheet : wrong) {
            Due.is("tells(" + sheet + ", 0)", x.tells(sheet, 0), BAD);
            Due.is("tells(" + sheet + ", 10)", x.tells(sheet, 10), BAD);
        }
    }

    private static void noSuchWhat() {
        Due.sentence("BAD: what");
        DrainedForAThird x = Twin.fullOfWorks();
        int[] wrong = {-1, 4, 5, 9, 40, 41, 45, 100, 110, -10, -11, LOWEST, HIGHEST};
        for (int what : wrong) {
            Due.is("tells(1, " + what + ")", x.tells(1, what), BAD);
        }
    }

    private static void noSuchWork() {
        Due.sentence("BAD: no such WORK");
        DrainedForAThird x = Due.falling();
        Due.sheet(x, 0, 1, ALL);
        for (int works = 0; works <= 6; works++) {
            for (int what = 10; what <= 30; what += 10) {
                for (int w = works; w < 10; w++) {
                    Due.is("of " + works + " tells(0, " + (what + w) + ")", x.tells(0, what + w), BAD);
                }
                Due.holds("of " + works + ", the last", works == 0 || x.tells(0, what + works - 1) > 0);
            }
            x.work(0, 0, 0);
        }
    }

    private static void missing() {
        Due.sentence("-11 nothing where something is asked");
        DrainedForAThird x = Twin.full();
        int[] whats = {0, 1, 2, 3, 10, 13, 20, 30};
        for (int what : whats) {
            Due.is("tells(3, " + what + ")", x.tells(3, what), NOTHING);
        }
    }

    private static void badAheadOfNothing() {
        Due.sentence("BAD: SHEET, what, no such WORK; -11 (the first that the call's words name)");
        DrainedForAThird x = Twin.full();
        Due.is("missing, wrong what", x.tells(3, 4), BAD);
        Due.is("missing, wrong what below 0", x.tells(3, -1), BAD);
        Due.is("missing, no such WORK", x.tells(3, 14), BAD);
    }

    private static void nothingAheadOfTooMany() {
        Due.sentence("-11; BAD: it tells more than 30");
        DrainedForAThird x = Twin.full();
        x.sheet(3, 2, 40);
        Due.is("more than 30", x.tells(3, 0), BAD);
        x.sheet(3, -1, 40);
        Due.is("missing", x.tells(3, 0), NOTHING);
    }

    private static void keeps() {
        Due.sentence("Refusals change nothing");
        Twin.keeps("tells(-1, 0)", x -> x.tells(-1, 0), BAD);
        Twin.keeps("tells(0, 4)", x -> x.tells(0, 4), BAD);
        Twin.keeps("tells(0, 14)", x -> x.tells(0, 14), BAD);
        Twin.keeps("tells(3, 0)", x -> x.tells(3, 0), NOTHING);
        DrainedForAThird y = Due.emptied();
        Due.sheet(y, 0, 1, WET, WET, ALL);
        int[] whats = {0, 1, 2, 3, 10, 20, 30};
        for (int what : whats) {
            int first = y.tells(0, what);
            Due.is("what " + what + " again", y.tells(0, what), first);
            Due.is("RIVER", y.told(0, 0), 99);
            Due.is("THE RULE", y.count(7), 1);
            Due.is("KIND", y.told(0, 8), 2);
            Due.is("NUMBER", y.told(0, 5), 2);
            Due.is("CELL", y.told(0, 6), 5);
        }
    }
}
