/** Promise 18: drawn. */
public final class Promise18DrawnTest {
    private static final int BAD = -2;

    public static void main(String[] args) {
        bySeed();
        anewForEachYear();
        onEachCell();
        aheadOfTheYear();
        waterBound();
        noYears();
        inThought();
        behindTheLastYear();
        seedsAtTheEnds();
        yearsBounds();
        keeps();
        Due.end();
    }

    /** What is drawn first, told by longs. */
    private static int rain(int seed) {
        long z = (seed * 1103515245L + 12345L) & 0xFFFFFFFFL;
        return (int) ((z / 512) % 10);
    }

    /** On cell 5, which a WORK draws 4 from, up to 4 leave it dry, elsewhere none. */
    private static DrainedForAThird rainedOn() {
        DrainedForAThird x = Due.falling();
        x.work(0, 4, 5);
        return x;
    }

    private static void bySeed() {
        Due.sentence("as (z >>> 9) % 10, z being z * 1103515245 + 12345 (an int; SEED at first)");
        DrainedForAThird x = rainedOn();
        for (int seed = -40; seed < 60; seed++) {
            int more = rain(seed);
            Due.is("drawn(" + seed + ", 1)", x.drawn(seed, 1), more == 0 ? 12 : more <= 4 ? 1 : 0);
        }
    }

    private static int riverTakes(int water) {
        return water - Math.min(water, water / 2);
    }

    private static void anewForEachYear() {
        Due.sentence("anew for each YEAR");
        // Four TALLS dry all from cell 2 on; cell 1 keeps what falls, less what its MILL draws; on 0 half goes.
        DrainedForAThird x = Due.falling();
        x.set(2, 2, 0);
        x.set(4, 1, 3);
        x.work(4, 9, 3);
        x.work(4, 9, 6);
        x.work(4, 9, 9);
        x.work(4, 9, 11);
        x.work(2, 0, 1);
        int[] seeds = {1, 2, 3, 17, -5};
        for (int seed : seeds) {
            int z = seed;
            int first = 0;
            int own = 3;
            for (int n = 1; n <= 6; n++) {
                z = z * 1103515245 + 12345;
                int more = (z >>> 9) % 10;
                first = riverTakes(first + more);
                own = Math.max(0, own + more - 5);
                int due = 12 - (first > 0 ? 1 : 0) - (own > 0 ? 1 : 0);
                Due.is("drawn(" + seed + ", " + n + ")", x.drawn(seed, n), due);
            }
        }
    }

    private static void onEachCell() {
        Due.sentence("so much more WATER is on each CELL: how many are DRY at last");
        int seed = 0;
        while (rain(seed) != 5) {
            seed++;
        }
        DrainedForAThird x = Due.falling();
        int[] dry = {3, 6, 9, 12};
        Due.is("no WORKS", x.drawn(seed, 1), 0);
        for (int i = 0; i < dry.length; i++) {
            x.work(4, 9, 1 + 3 * i);
            Due.is((i + 1) + " TALLS", x.drawn(seed, 1), dry[i]);
        }
    }

    private static void aheadOfTheYear() {
        Due.sentence("ahead of each of n YEARS so much more WATER is on each CELL");
        int seed = 0;
        while (rain(seed) != 4) {
            seed++;
        }
        // What rains by what is there is doubled, if it is there ahead.
        DrainedForAThird x = Due.ruled("rains water;shrinks 0;calls 0;");
        x.set(0, 0, 99);
        Due.all(x, 4, 0);
        for (int c = 0; c < 12; c++) {
            x.set(2, c, 88 - 8 * c);
        }
        x.work(0, 8, 5);
        Due.is("4 and 4 are drawn off", x.drawn(seed, 1), 1);
        x.set(5, 0, 7);
        Due.is("7 of 8 are not all", x.drawn(seed, 1), 0);
    }

    private static void waterBound() {
        Due.sentence("so much more WATER (999 at most)");
        int bound = 0;
        for (int number = 0; number < 10; number++) {
            // Behind a BANK cell 5 stays full, till five TALLS have drawn it off: whether they do hangs on what 999 bounds.
            DrainedForAThird x = Due.falling();
            for (int c = 6; c < 12; c++) {
                x.set(2, c, 0);
            }
            for (int w = 0; w < 4; w++) {
                x.work(4, 9, 5);
            }
            x.work(4, number, 5);
            x.work(5, 0, 4);
            for (int seed = 0; seed < 20; seed++) {
                x.set(4, 5, 0);
                int others = x.drawn(seed, 8);
                x.set(4, 5, 999);
                int z = seed;
                int water = 999;
                int more = 999;
                for (int n = 0; n < 8; n++) {
                    z = z * 1103515245 + 12345;
                    int draws = 112 + 2 * (number + 5);
                    water = Math.max(0, Math.min(999, water + (z >>> 9) % 10) - draws);
                    more = Math.max(0, more + (z >>> 9) % 10 - draws);
                }
                bound += water == 0 && more > 0 ? 1 : 0;
                Due.is("drawn(" + seed + ", 8) with " + number, x.drawn(seed, 8), others - (water > 0 ? 1 : 0));
            }
        }
        Due.holds("the bound told in some", bound > 0);
    }

    private static void noYears() {
        Due.sentence("n YEARS (0 .. 30)");
        DrainedForAThird x = rainedOn();
        Due.is("no YEARS, all DRY", x.drawn(3, 0), 12);
        x.set(4, 7, 1);
        Due.is("no YEARS, one wet", x.drawn(3, 0), 11);
    }

    private static void inThought() {
        Due.sentence("n YEARS, in thought");
        DrainedForAThird x = rainedOn();
        x.drawn(3, 9);
        Due.is("WATER", x.told(3, 4), 0);
        Due.is("THE YEAR", x.count(3), 0);
        Due.is("PAID", x.count(4), 0);
    }

    private static void behindTheLastYear() {
        Due.sentence("(there YEAR may pass 999)");
        DrainedForAThird x = rainedOn();
        int due = x.drawn(3, 4);
        x.set(1, 0, 999);
        Due.is("from 999", x.drawn(3, 4), due);
        Due.is("THE YEAR", x.count(3), 999);
    }

    private static void seedsAtTheEnds() {
        Due.sentence("z * 1103515245 + 12345 (an int)");
        DrainedForAThird x = rainedOn();
        int[] seeds = {Integer.MAX_VALUE, Integer.MIN_VALUE, Integer.MAX_VALUE - 1, Integer.MIN_VALUE + 1, 0, -1, 123456789};
        for (int seed : seeds) {
            int more = rain(seed);
            Due.is("drawn(" + seed + ", 1)", x.drawn(seed, 1), more == 0 ? 12 : more <= 4 ? 1 : 0);
        }
    }

    private static void yearsBounds() {
        Due.sentence("BAD: n (0 .. 30)");
        DrainedForAThird x = new DrainedForAThird();
        int[] wrong = {-1, 31, Integer.MIN_VALUE, Integer.MAX_VALUE};
        for (int n : wrong) {
            Due.is("drawn(0, " + n + ")", x.drawn(0, n), BAD);
            Due.is("drawn(-7, " + n + ")", x.drawn(-7, n), BAD);
        }
        Due.is("drawn(0, 30)", x.drawn(0, 30), 0);
    }

    private static void keeps() {
        Due.sentence("Refusals change nothing");
        Twin.keeps("drawn(0, -1)", x -> x.drawn(0, -1), BAD);
        Twin.keeps("drawn(0, 31)", x -> x.drawn(0, 31), BAD);
    }
}
