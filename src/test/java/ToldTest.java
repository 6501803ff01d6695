/** Promises 16 to 22: tells, film, drawn, chance, image, back, count. */
public final class ToldTest {
    private static final int NONE = -1;
    private static final int BAD = -2;
    private static final int STATE = -3;
    private static final int NOTHING = -11;
    private static final int ALL = 4095;
    private static final long NO = DrainedForAThird.NO;

    public static void main(String[] args) {
        tellsOther();
        tellsSorts();
        tellsTexts();
        tellsRivers();
        tellsKinds();
        tellsNumbers();
        tellsCells();
        tellsOfMany();
        tellsEmpty();
        tellsWrong();
        film();
        filmWrong();
        drawn();
        drawnMany();
        drawnFull();
        drawnWrong();
        chance();
        chanceWraps();
        chanceWrong();
        image();
        imageOfRule();
        back();
        count();
        Due.end();
    }

    private static void put(DrainedForAThird x, int sheet, int sort, int... items) {
        Due.is("sheet", x.sheet(sheet, sort, items.length), 1);
        for (int i = 0; i < items.length; i++) {
            Due.is("cell", x.cell(sheet, i, items[i]), 1);
        }
    }

    /** One hollow that a MILL empties behind three years: DRY are 4063 twice, then all. */
    private static DrainedForAThird emptied() {
        DrainedForAThird x = Due.falling();
        x.set(2, 5, 0);
        x.set(4, 5, 20);
        x.work(2, 2, 5);
        return x;
    }

    private static void tellsOther() {
        DrainedForAThird x = emptied();
        int wet = ALL - Due.bit(5);
        put(x, 0, 2, wet, wet, ALL, ALL);
        Due.is("as told", x.tells(0, 0), NONE);
        put(x, 1, 2, wet, wet, wet, ALL);
        Due.is("otherwise behind three", x.tells(1, 0), 2);
        put(x, 2, 2, ALL, wet, ALL, ALL);
        Due.is("otherwise at once", x.tells(2, 0), 0);
        put(x, 3, 2, wet, wet, ALL, 0);
        Due.is("otherwise at last", x.tells(3, 0), 3);
        Due.is("THE YEAR", x.count(3), 0);
        Due.is("WATER", x.told(5, 4), 20);
        put(x, 3, 2, wet, wet, ALL + 4096);
        Due.is("a bit more", x.tells(3, 0), 2);
        put(x, 3, 2, wet, wet, ALL + 65536);
        Due.is("a high bit more", x.tells(3, 0), 2);
    }

    private static void tellsSorts() {
        DrainedForAThird x = emptied();
        int wet = ALL - Due.bit(5);
        put(x, 0, 1, wet, wet + 65536, ALL - 65536);
        Due.is("shorts: the lowest 16 bits", x.tells(0, 0), NONE);
        DrainedForAThird y = Due.falling();
        for (int c = 7; c < 12; c++) {
            y.set(4, c, 1);
        }
        put(y, 0, 0, 127, 127 + 256);
        Due.is("bytes: the lowest 8 bits", y.tells(0, 0), NONE);
        y.set(4, 7, 0);
        put(y, 0, 0, 255);
        Due.is("a byte of 255 is -1", y.tells(0, 0), 0);
        put(y, 0, 1, 255);
        Due.is("a short of 255", y.tells(0, 0), NONE);
    }

    private static void tellsTexts() {
        DrainedForAThird x = emptied();
        Due.read(x, "rains 0;shrinks 0;calls 9;");
        Due.read(x, "rains 7*(cell=5);shrinks 0;calls 9;");
        Due.read(x, "rains 7*(cell=5)*(1<year);shrinks 0;calls 9;");
        int wet = ALL - Due.bit(5);
        put(x, 0, 1, wet, wet);
        Due.is("two years, all but the one with rain everywhere", x.tells(0, 1), Due.bit(1, 2, 3, 4));
        put(x, 0, 1, wet, wet, ALL);
        Due.is("three years, those without rain", x.tells(0, 1), Due.bit(1, 2));
        put(x, 0, 1, wet, wet, wet);
        Due.is("three years, those with rain", x.tells(0, 1), Due.bit(3, 4));
        put(x, 0, 1, 0);
        Due.is("none", x.tells(0, 1), 0);
        Due.is("THE RULE", x.count(7), 1);
    }

    private static void tellsRivers() {
        DrainedForAThird x = Due.falling();
        x.set(2, 0, 50);
        put(x, 0, 2, ALL);
        Due.is("rivers that leave it dry", x.tells(0, 2), 52);
        Due.is("the highest of these", x.tells(0, 3), 51);
        put(x, 0, 2, ALL - 1);
        Due.is("rivers that come", x.tells(0, 2), 48);
        Due.is("the highest of those", x.tells(0, 3), 99);
        put(x, 0, 2, ALL - 1, ALL);
        Due.is("none", x.tells(0, 2), 0);
        Due.is("the highest of none", x.tells(0, 3), NONE);
        Due.is("RIVER", x.told(0, 0), 99);
        DrainedForAThird y = Due.falling();
        y.set(2, 5, 1);
        y.set(4, 5, 2);
        y.work(1, 1, 5);
        put(y, 0, 2, ALL);
        Due.is("a river of 0 alone", y.tells(0, 2), 1);
        Due.is("0 is the highest", y.tells(0, 3), 0);
    }

    private static void tellsKinds() {
        DrainedForAThird x = emptied();
        int wet = ALL - Due.bit(5);
        // 20 less 2 (0), 7 (2), 14 (4), none (5); a CUT or a SLUICE below the river as a WORK.
        put(x, 0, 1, wet, wet, ALL);
        Due.is("KINDS", x.tells(0, 10), Due.bit(2));
        put(x, 0, 1, wet, ALL);
        Due.is("KINDS of two years", x.tells(0, 10), Due.bit(4));
        put(x, 0, 1, wet, wet, wet);
        Due.is("KINDS that draw less", x.tells(0, 10), Due.bit(0, 1, 3, 5));
        Due.is("KIND", x.told(0, 8), 2);
        put(x, 0, 1, wet, wet, wet, wet, wet, wet, wet, wet, wet, ALL);
        Due.is("KINDS that draw 2, in ten years", x.tells(0, 10), Due.bit(0, 1));
        put(x, 0, 1, wet, wet, wet, wet, wet, wet, wet, wet, wet, wet, wet, wet, wet, ALL);
        Due.is("a SLUICE rests in each third year", x.tells(0, 10), Due.bit(3));
        x.set(7, 0, 0);
        put(x, 0, 1, wet, wet);
        Due.is("KINDS of what does not go", x.tells(0, 10), 63);
    }

    private static void tellsNumbers() {
        DrainedForAThird x = emptied();
        int wet = ALL - Due.bit(5);
        put(x, 0, 1, wet, wet, ALL);
        // 5 more than the NUMBER, three times, are 20 or more; twice they are less.
        Due.is("NUMBERS", x.tells(0, 20), Due.bit(2, 3, 4));
        put(x, 0, 1, wet, wet);
        Due.is("NUMBERS of two years", x.tells(0, 20), Due.bit(0, 1, 2, 3, 4));
        put(x, 0, 1, wet, ALL);
        Due.is("NUMBERS that draw more", x.tells(0, 20), Due.bit(5, 6, 7, 8, 9));
        put(x, 0, 1, 0);
        Due.is("no NUMBERS", x.tells(0, 20), 0);
        Due.is("NUMBER", x.told(0, 5), 2);
    }

    private static void tellsCells() {
        DrainedForAThird x = emptied();
        int wet = ALL - Due.bit(5);
        put(x, 0, 1, wet, wet, ALL);
        Due.is("CELLS", x.tells(0, 30), Due.bit(5));
        put(x, 0, 1, wet, wet, wet);
        Due.is("CELLS elsewhere", x.tells(0, 30), ALL - Due.bit(5));
        x.set(5, 0, 0);
        x.set(0, 0, 99);
        DrainedForAThird y = emptied();
        y.set(4, 5, 10);
        y.work(4, 0, 9);
        y.set(7, 0, 0);
        put(y, 0, 1, ALL);
        // A TALL draws from the cells beside its own, too.
        Due.is("CELLS of a TALL", y.tells(0, 31), Due.bit(4, 5, 6));
        Due.is("CELL", y.told(1, 6), 9);
        Due.is("CELLS of what does not go", y.tells(0, 30), 0);
    }

    private static void tellsOfMany() {
        DrainedForAThird x = emptied();
        for (int w = 1; w < 6; w++) {
            Due.is("no such WORK " + w, x.tells(0, 10 + w), BAD);
            x.work(0, 0, 0);
        }
        put(x, 0, 1, ALL - Due.bit(5));
        for (int w = 1; w < 6; w++) {
            Due.is("KINDS of " + w, x.tells(0, 10 + w), 63);
            Due.is("NUMBERS of " + w, x.tells(0, 20 + w), 1023);
            Due.is("CELLS of " + w, x.tells(0, 30 + w), ALL);
        }
        Due.is("no such WORK 6", x.tells(0, 16), BAD);
    }

    private static void tellsEmpty() {
        DrainedForAThird x = new DrainedForAThird();
        x.work(0, 0, 0);
        put(x, 3, 0);
        Due.is("nothing told: what is otherwise", x.tells(3, 0), NONE);
        Due.is("nothing told: TEXTS", x.tells(3, 1), 1);
        Due.is("nothing told: RIVERS", x.tells(3, 2), 100);
        Due.is("nothing told: the highest", x.tells(3, 3), 99);
        Due.is("nothing told: KINDS", x.tells(3, 10), 63);
        Due.is("nothing told: NUMBERS", x.tells(3, 20), 1023);
        Due.is("nothing told: CELLS", x.tells(3, 30), ALL);
    }

    private static void tellsWrong() {
        DrainedForAThird x = new DrainedForAThird();
        x.work(0, 0, 0);
        Due.is("missing", x.tells(0, 0), NOTHING);
        Due.is("missing, wrong what", x.tells(0, 4), BAD);
        Due.is("missing, no such WORK", x.tells(0, 11), BAD);
        x.sheet(0, 2, 31);
        x.sheet(1, 2, 30);
        Due.is("31 told", x.tells(0, 0), BAD);
        Due.is("30 told", x.tells(1, 0), NONE);
        int[] wrong = {-1, 4, 5, 9, 11, 15, 16, 19, 21, 29, 31, 39, 40, 41, 100, -10, Integer.MAX_VALUE, Integer.MIN_VALUE};
        for (int what : wrong) {
            Due.is("tells(1, " + what + ")", x.tells(1, what), BAD);
        }
        Due.is("tells(-1, 0)", x.tells(-1, 0), BAD);
        Due.is("tells(4, 0)", x.tells(4, 0), BAD);
    }

    private static void film() {
        DrainedForAThird x = emptied();
        x.sheet(0, 0, 40);
        Due.is("film", x.film(0, 3), 3);
        Due.is("of shorts", x.works(0, 1, 0, 0), 0);
        Due.is("as long as there are years", x.cell(0, 2, 4095), 1);
        Due.is("no longer", x.cell(0, 3, 0), -12);
        Due.is("what it tells", x.tells(0, 0), NONE);
        Due.is("THE YEAR", x.count(3), 0);
        Due.is("WATER", x.told(5, 4), 20);
        put(x, 1, 1, ALL - Due.bit(5), ALL - Due.bit(5), ALL);
        x.set(4, 5, 6);
        Due.is("film again", x.film(2, 30), 30);
        Due.is("all dry", x.tells(2, 0), NONE);
        x.set(4, 5, 20);
        Due.is("it is kept", x.tells(2, 0), 0);
        Due.is("film of no years", x.film(2, 0), 0);
        Due.is("it is not missing", x.tells(2, 0), NONE);
        Due.is("it has none", x.cell(2, 0, 0), -12);
        x.set(1, 0, 999);
        Due.is("film behind the last year", x.film(3, 5), 5);
        Due.is("THE YEAR still", x.count(3), 999);
    }

    private static void filmWrong() {
        DrainedForAThird x = new DrainedForAThird();
        Due.is("film(-1, 0)", x.film(-1, 0), BAD);
        Due.is("film(4, 0)", x.film(4, 0), BAD);
        Due.is("film(0, -1)", x.film(0, -1), BAD);
        Due.is("film(0, 31)", x.film(0, 31), BAD);
        Due.is("it is missing still", x.tells(0, 0), NOTHING);
    }

    private static int rain(int seed) {
        long z = (seed * 1103515245L + 12345L) & 0xFFFFFFFFL;
        return (int) ((z / 512) % 10);
    }

    /** As much falls on all: on cell 5, which a WORK draws 4 from, up to 4 leave it dry, elsewhere none. */
    private static DrainedForAThird rainedOn() {
        DrainedForAThird x = Due.falling();
        x.set(0, 0, 99);
        x.work(0, 4, 5);
        return x;
    }

    private static void drawn() {
        DrainedForAThird x = rainedOn();
        int[] seeds = {0, 1, 2, 3, 4, 5, 6, 7, 8, 9, -1, -2, -77, 12345, 99999, Integer.MAX_VALUE, Integer.MIN_VALUE};
        for (int seed : seeds) {
            int more = rain(seed);
            int due = more == 0 ? 12 : more == 1 ? 1 : more <= 4 ? 1 : 0;
            Due.is("drawn(" + seed + ", 1)", x.drawn(seed, 1), due);
        }
        Due.is("no years", x.drawn(3, 0), 12);
        Due.is("WATER", x.told(3, 4), 0);
        Due.is("THE YEAR", x.count(3), 0);
    }

    private static void drawnMany() {
        // Four TALLS dry all from cell 2 on; cell 1 keeps what falls, less what its MILL draws; cell 0 shares with the river.
        DrainedForAThird x = Due.falling();
        x.set(2, 2, 0);
        x.set(4, 1, 3);
        x.work(4, 9, 3);
        x.work(4, 9, 6);
        x.work(4, 9, 9);
        x.work(4, 9, 11);
        x.work(2, 0, 1);
        x.set(2, 0, 99);
        int[] seeds = {1, 2, 3, 17, -5};
        for (int seed : seeds) {
            int z = seed;
            int first = 0;
            int own = 3;
            for (int n = 1; n <= 6; n++) {
                z = z * 1103515245 + 12345;
                int more = (z >>> 9) % 10;
                first = riverTakes(first + more);
                own = Math.max(0, own + more - 5);
                int due = 12 - (first > 0 ? 1 : 0) - (own > 0 ? 1 : 0);
                Due.is("drawn(" + seed + ", " + n + ")", x.drawn(seed, n), due);
            }
        }
    }

    /** Behind a BANK cell 5 stays full, till five TALLS have drawn it off: whether they do hangs on what 999 bounds. */
    private static void drawnFull() {
        int bound = 0;
        for (int number = 0; number < 10; number++) {
            DrainedForAThird x = Due.falling();
            for (int c = 6; c < 12; c++) {
                x.set(2, c, 0);
            }
            for (int w = 0; w < 4; w++) {
                x.work(4, 9, 5);
            }
            x.work(4, number, 5);
            x.work(5, 0, 4);
            for (int seed = 0; seed < 20; seed++) {
                x.set(4, 5, 0);
                int others = x.drawn(seed, 8);
                x.set(4, 5, 999);
                int z = seed;
                int water = 999;
                int more = 999;
                for (int n = 0; n < 8; n++) {
                    z = z * 1103515245 + 12345;
                    int draws = 112 + 2 * (number + 5);
                    water = Math.max(0, Math.min(999, water + (z >>> 9) % 10) - draws);
                    more = Math.max(0, more + (z >>> 9) % 10 - draws);
                }
                bound += water == 0 && more > 0 ? 1 : 0;
                Due.is("drawn(" + seed + ", 8) with " + number, x.drawn(seed, 8), others - (water > 0 ? 1 : 0));
            }
        }
        Due.is("the bound told in some", bound > 0 ? 1 : 0, 1);
    }

    private static int riverTakes(int water) {
        return water - Math.min(water, water / 2);
    }

    private static void drawnWrong() {
        DrainedForAThird x = new DrainedForAThird();
        Due.is("drawn(0, -1)", x.drawn(0, -1), BAD);
        Due.is("drawn(0, 31)", x.drawn(0, 31), BAD);
        Due.is("drawn(0, 30)", x.drawn(0, 30), 0);
    }

    private static long divisor(long a, long b) {
        return b == 0 ? a : divisor(b, a % b);
    }

    private static void chance() {
        DrainedForAThird x = rainedOn();
        for (int m = 1; m <= 20; m++) {
            for (int k = 0; k <= 12; k += k == 1 ? 11 : 1) {
                int enough = 0;
                for (int i = 0; i < m; i++) {
                    int more = rain(40 + i);
                    enough += k == 0 || more == 0 || k == 1 && more <= 4 ? 1 : 0;
                }
                long common = divisor(enough, m);
                String call = "chance(40, " + m + ", " + (100 + k) + ", ";
                Due.is(call + "0)", x.chance(40, m, 100 + k, 0), enough / common);
                Due.is(call + "1)", x.chance(40, m, 100 + k, 1), m / common);
            }
        }
        Due.is("no years, all dry", x.chance(7, 20, 12, 0), 1);
        Due.is("no years, all dry, below", x.chance(7, 20, 12, 1), 1);
        x.set(4, 4, 1);
        Due.is("no years, one wet", x.chance(7, 20, 12, 0), 0);
        Due.is("no years, one wet, below", x.chance(7, 20, 12, 1), 1);
        Due.is("no years, eleven", x.chance(7, 20, 11, 0), 1);
        Due.is("no years, none at least", x.chance(7, 20, 0, 0), 1);
        Due.is("none of ten years", x.chance(7, 20, 1012, 0), 0);
    }

    private static void chanceWraps() {
        DrainedForAThird x = rainedOn();
        int first = rain(Integer.MAX_VALUE) <= 4 ? 1 : 0;
        int second = rain(Integer.MIN_VALUE) <= 4 ? 1 : 0;
        long common = divisor(first + second, 2);
        Due.is("behind the highest SEED comes the lowest", x.chance(Integer.MAX_VALUE, 2, 101, 0), (first + second) / common);
        Due.is("below the line", x.chance(Integer.MAX_VALUE, 2, 101, 1), 2 / common);
    }

    private static void chanceWrong() {
        DrainedForAThird x = new DrainedForAThird();
        int[][] wrong = {
            {0, 0, 0}, {-1, 0, 0}, {21, 0, 0}, {1, -1, 0}, {1, -100, 0}, {1, 13, 0}, {1, 99, 0}, {1, 113, 0}, {1, 3013, 0},
            {1, 3100, 0}, {1, Integer.MAX_VALUE, 0}, {1, Integer.MIN_VALUE, 0}, {1, 0, -1}, {1, 0, 2},
        };
        for (int[] w : wrong) {
            Due.is("chance(0, " + w[0] + ", " + w[1] + ", " + w[2] + ")", x.chance(0, w[0], w[1], w[2]), NO);
        }
        Due.is("chance(0, 20, 3012, 0)", x.chance(0, 20, 3012, 0), 0);
        Due.is("chance(0, 20, 3000, 0)", x.chance(0, 20, 3000, 0), 1);
    }

    private static void image() {
        DrainedForAThird x = new DrainedForAThird();
        Due.is("no image", x.back(), STATE);
        x.work(1, 3, 4);
        x.work(5, 2, 7);
        x.set(7, 1, 0);
        x.set(0, 0, 50);
        x.set(1, 0, 17);
        x.set(2, 3, 51);
        x.set(3, 4, 13);
        x.set(4, 5, 77);
        x.year();
        int[] before = all(x);
        Due.is("image", x.image(), 2);
        x.work(2, 9, 9);
        x.set(0, 0, 1);
        x.set(1, 0, 500);
        for (int c = 0; c < 12; c++) {
            x.set(2, c, c);
            x.set(3, c, 90 + c % 9);
            x.set(4, c, 500 + c);
        }
        x.set(5, 0, 9);
        x.set(6, 0, 9);
        x.set(7, 0, 0);
        x.set(7, 1, 1);
        x.year();
        Due.is("back", x.back(), 2);
        same("all laid back", all(x), before);
        Due.is("the work that came since is gone", x.told(2, 8), BAD);
        Due.is("a new one", x.work(3, 5, 6), 2);
        Due.is("its KIND", x.told(2, 8), 3);
        x.year();
        Due.is("back again", x.back(), 2);
        same("all laid back again", all(x), before);
        x.set(0, 0, 3);
        Due.is("another image", x.image(), 2);
        x.set(0, 0, 4);
        x.back();
        Due.is("RIVER of the other image", x.told(0, 0), 3);
    }

    private static int[] all(DrainedForAThird x) {
        int[] all = new int[64];
        int i = 0;
        for (int what = 2; what <= 4; what++) {
            for (int c = 0; c < 12; c++) {
                all[i++] = x.told(c, what);
            }
        }
        for (int what = 5; what <= 8; what++) {
            for (int w = 0; w < 2; w++) {
                all[i++] = x.told(w, what);
            }
        }
        for (int what = 0; what <= 5; what++) {
            all[i++] = x.count(what);
        }
        all[i++] = x.count(7);
        all[i] = x.told(0, 0);
        return all;
    }

    private static void same(String when, int[] got, int[] due) {
        for (int i = 0; i < due.length; i++) {
            Due.is(when + ", number " + i, got[i], due[i]);
        }
    }

    private static void imageOfRule() {
        DrainedForAThird x = Due.ruled("rains 1;shrinks 2;calls 3;");
        x.image();
        Due.read(x, "rains 3;shrinks 2;calls 3;");
        x.force(2);
        x.feed(65);
        x.sheet(2, 1, 7);
        x.back();
        Due.is("THE RULE", x.count(7), 1);
        Due.is("rains", x.asks(0, 0), 1);
        Due.is("TEXTS stay", x.count(5), 3);
        Due.is("THE TAPE stays", x.count(6), 1);
        Due.is("SHEETS stay", x.cell(2, 6, 1), 1);
        DrainedForAThird y = new DrainedForAThird();
        Due.is("image of no works", y.image(), 0);
        y.work(0, 0, 0);
        Due.is("back to no works", y.back(), 0);
        Due.is("WORKS", y.count(0), 0);
    }

    private static void back() {
        DrainedForAThird x = new DrainedForAThird();
        Due.is("no image", x.back(), STATE);
        x.set(0, 0, 3);
        Due.is("no image still", x.back(), STATE);
        Due.is("it changed nothing", x.told(0, 0), 3);
        x.image();
        x.year();
        x.set(0, 0, 9);
        int year = x.count(3);
        x.run(5, 0);
        Due.is("thoughts are no image", x.count(3), year);
        x.back();
        Due.is("RIVER", x.told(0, 0), 3);
        Due.is("THE YEAR", x.count(3), 0);
    }

    private static void count() {
        DrainedForAThird x = Due.ruled("rains 0;shrinks 0;calls 7;");
        x.work(0, 1, 2);
        x.work(0, 1, 2);
        x.work(0, 1, 2);
        x.set(7, 1, 0);
        x.set(4, 9, 0);
        x.set(4, 0, 0);
        x.feed(32);
        x.feed(32);
        x.set(1, 0, 40);
        Due.is("WORKS", x.count(0), 3);
        Due.is("that go", x.count(1), 2);
        Due.is("DRY", x.count(2), 2);
        Due.is("THE YEAR", x.count(3), 40);
        Due.is("PAID", x.count(4), 0);
        x.year();
        Due.is("PAID behind a year", x.count(4), 14);
        Due.is("THE YEAR behind it", x.count(3), 41);
        Due.is("TEXTS", x.count(5), 2);
        Due.is("THE TAPE", x.count(6), 2);
        Due.is("THE RULE", x.count(7), 1);
        Due.is("count(8)", x.count(8), BAD);
        Due.is("count(-1)", x.count(-1), BAD);
        Due.is("count of the lowest int", x.count(Integer.MIN_VALUE), BAD);
    }
}
