/** Promise 19: chance. */
public final class Promise19ChanceTest {
    private static final long NO = DrainedForAThird.NO;

    public static void main(String[] args) {
        ofSeeds();
        inLowestTerms();
        noneOfThem();
        allOfThem();
        orMore();
        seedsWrap();
        noYears();
        behindTheLastYear();
        seedsBounds();
        yearsBounds();
        cellsBounds();
        partBounds();
        keeps();
        Due.end();
    }

    private static int rain(int seed) {
        long z = (seed * 1103515245L + 12345L) & 0xFFFFFFFFL;
        return (int) ((z / 512) % 10);
    }

    /** In one year up to 4 leave cell 5 dry, elsewhere none. */
    private static DrainedForAThird rainedOn() {
        DrainedForAThird x = Due.falling();
        x.work(0, 4, 5);
        return x;
    }

    private static long divisor(long a, long b) {
        return b == 0 ? a : divisor(b, a % b);
    }

    private static void ofSeeds() {
        Due.sentence("IN m seeds (1 .. 20), SEED and each 1 more: of these those by which k or more are");
        DrainedForAThird x = rainedOn();
        for (int m = 1; m <= 20; m++) {
            for (int k = 0; k <= 12; k += k == 1 ? 11 : 1) {
                int enough = 0;
                for (int i = 0; i < m; i++) {
                    int more = rain(40 + i);
                    enough += k == 0 || more == 0 || k == 1 && more <= 4 ? 1 : 0;
                }
                long common = divisor(enough, m);
                String call = "chance(40, " + m + ", " + (100 + k) + ", ";
                Due.is(call + "0)", x.chance(40, m, 100 + k, 0), enough / common);
                Due.is(call + "1)", x.chance(40, m, 100 + k, 1), m / common);
            }
        }
    }

    /** The first SEED from 0 on of which so many of m leave cell 5 dry. */
    private static int seedOf(int enough, int m) {
        for (int seed = 0; seed < 2000; seed++) {
            int found = 0;
            for (int i = 0; i < m; i++) {
                found += rain(seed + i) <= 4 ? 1 : 0;
            }
            if (found == enough) {
                return seed;
            }
        }
        return -1;
    }

    private static void inLowestTerms() {
        Due.sentence("part 0 above, 1 below the line, in lowest terms");
        DrainedForAThird x = rainedOn();
        int[][] parts = {{2, 4, 1, 2}, {4, 6, 2, 3}, {3, 6, 1, 2}, {10, 20, 1, 2}, {8, 20, 2, 5}, {3, 7, 3, 7}};
        for (int[] p : parts) {
            int seed = seedOf(p[0], p[1]);
            Due.holds("there is a SEED of which " + p[0] + " of " + p[1] + " are enough", seed >= 0);
            Due.is(p[0] + " of " + p[1] + ", above", x.chance(seed, p[1], 101, 0), p[2]);
            Due.is(p[0] + " of " + p[1] + ", below", x.chance(seed, p[1], 101, 1), p[3]);
        }
    }

    private static void noneOfThem() {
        Due.sentence("in lowest terms");
        DrainedForAThird x = new DrainedForAThird();
        for (int m = 1; m <= 20; m++) {
            Due.is("none of " + m + ", above", x.chance(7, m, 112, 0), 0);
            Due.is("none of " + m + ", below", x.chance(7, m, 112, 1), 1);
        }
    }

    private static void allOfThem() {
        Due.sentence("in lowest terms");
        DrainedForAThird x = new DrainedForAThird();
        for (int m = 1; m <= 20; m++) {
            Due.is("all of " + m + ", above", x.chance(7, m, 100, 0), 1);
            Due.is("all of " + m + ", below", x.chance(7, m, 100, 1), 1);
        }
    }

    private static void orMore() {
        Due.sentence("those by which k (0 .. 12) or more are");
        DrainedForAThird x = Due.falling();
        x.set(4, 3, 1);
        Due.is("eleven are DRY: k 10", x.chance(1, 1, 10, 0), 1);
        Due.is("eleven are DRY: k 11", x.chance(1, 1, 11, 0), 1);
        Due.is("eleven are DRY: k 12", x.chance(1, 1, 12, 0), 0);
        Due.is("eleven are DRY: k 0", x.chance(1, 1, 0, 0), 1);
    }

    private static void seedsWrap() {
        Due.sentence("SEED and each 1 more (an int)");
        DrainedForAThird x = rainedOn();
        for (int m = 1; m <= 20; m++) {
            int enough = 0;
            for (int i = 0; i < m; i++) {
                enough += rain(Integer.MAX_VALUE - 1 + i) <= 4 ? 1 : 0;
            }
            long common = divisor(enough, m);
            // Behind the highest SEED comes the lowest.
            Due.is("above, m " + m, x.chance(Integer.MAX_VALUE - 1, m, 101, 0), enough / common);
            Due.is("below, m " + m, x.chance(Integer.MAX_VALUE - 1, m, 101, 1), m / common);
        }
    }

    private static void noYears() {
        Due.sentence("n YEARS (0 .. 30)");
        DrainedForAThird x = rainedOn();
        Due.is("all DRY", x.chance(7, 20, 12, 0), 1);
        Due.is("all DRY, below", x.chance(7, 20, 12, 1), 1);
        x.set(4, 4, 1);
        Due.is("one wet", x.chance(7, 20, 12, 0), 0);
        Due.is("one wet, below", x.chance(7, 20, 12, 1), 1);
        Due.is("one wet, eleven", x.chance(7, 20, 11, 0), 1);
    }

    private static void behindTheLastYear() {
        Due.sentence("(there YEAR may pass 999)");
        DrainedForAThird x = rainedOn();
        long above = x.chance(3, 20, 301, 0);
        long below = x.chance(3, 20, 301, 1);
        x.set(1, 0, 999);
        Due.is("from 999, above", x.chance(3, 20, 301, 0), above);
        Due.is("from 999, below", x.chance(3, 20, 301, 1), below);
        Due.is("THE YEAR", x.count(3), 999);
    }

    private static void seedsBounds() {
        Due.sentence("NO: m (1 .. 20)");
        DrainedForAThird x = new DrainedForAThird();
        int[] wrong = {0, -1, 21, Integer.MIN_VALUE, Integer.MAX_VALUE};
        for (int m : wrong) {
            Due.is("chance(0, " + m + ", 0, 0)", x.chance(0, m, 0, 0), NO);
            Due.is("chance(0, " + m + ", 0, 1)", x.chance(0, m, 0, 1), NO);
        }
        Due.is("chance(0, 1, 0, 0)", x.chance(0, 1, 0, 0), 1);
        Due.is("chance(0, 20, 0, 0)", x.chance(0, 20, 0, 0), 1);
    }

    private static void yearsBounds() {
        Due.sentence("NO: nk (n YEARS 0 .. 30; nk: 100 times n, and k)");
        DrainedForAThird x = new DrainedForAThird();
        int[] wrong = {3100, 3101, 3112, 10000, 65536 * 100, -100, -200, Integer.MIN_VALUE, Integer.MAX_VALUE};
        for (int nk : wrong) {
            Due.is("chance(0, 1, " + nk + ", 0)", x.chance(0, 1, nk, 0), NO);
        }
        Due.is("chance(0, 1, 3000, 0)", x.chance(0, 1, 3000, 0), 1);
        Due.is("chance(0, 1, 3012, 0)", x.chance(0, 1, 3012, 0), 0);
    }

    private static void cellsBounds() {
        Due.sentence("NO: nk (k 0 .. 12)");
        DrainedForAThird x = new DrainedForAThird();
        int[] wrong = {13, 50, 99, 113, 199, 3013, 3099, -1, -12, -101, -112};
        for (int nk : wrong) {
            Due.is("chance(0, 1, " + nk + ", 0)", x.chance(0, 1, nk, 0), NO);
        }
        Due.is("chance(0, 1, 12, 0)", x.chance(0, 1, 12, 0), 0);
        Due.is("chance(0, 1, 112, 1)", x.chance(0, 1, 112, 1), 1);
    }

    private static void partBounds() {
        Due.sentence("NO: part (0 above, 1 below the line)");
        DrainedForAThird x = new DrainedForAThird();
        int[] wrong = {-1, 2, Integer.MIN_VALUE, Integer.MAX_VALUE};
        for (int part : wrong) {
            Due.is("chance(0, 1, 0, " + part + ")", x.chance(0, 1, 0, part), NO);
        }
    }

    private static void keeps() {
        Due.sentence("Refusals change nothing");
        Twin.keeps("chance(0, 0, 0, 0)", x -> x.chance(0, 0, 0, 0), NO);
        Twin.keeps("chance(0, 1, 13, 0)", x -> x.chance(0, 1, 13, 0), NO);
        Twin.keeps("chance(0, 1, 3100, 0)", x -> x.chance(0, 1, 3100, 0), NO);
        Twin.keeps("chance(0, 1, 0, 2)", x -> x.chance(0, 1, 0, 2), NO);
        Twin.keeps("chance(9, 20, 912, 0), no refusal", x -> x.chance(9, 20, 912, 0), 0);
    }
}
