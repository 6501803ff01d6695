/** Promise 11: first. */
public final class Promise11FirstTest {
    private static final int NONE = -1;
    private static final int BAD = -2;

    public static void main(String[] args) {
        theFirst();
        never();
        noYears();
        shorterBehindLonger();
        behindOnly();
        orMore();
        behindTheLastYear();
        yearsBounds();
        cellsBounds();
        keeps();
        Due.end();
    }

    private static void theFirst() {
        Due.sentence("the first of them (from 0) behind which k CELLS (1 .. 12) or more are DRY");
        DrainedForAThird z = Due.wetThenDry();
        int[] first = {0, 0, 0, 0, 0, 0, 0, 0, 0, 0, 2, 4};
        for (int k = 1; k <= 12; k++) {
            Due.is("first(8, " + k + ")", z.first(8, k), first[k - 1]);
            Due.is("first(30, " + k + ")", z.first(30, k), first[k - 1]);
        }
        Due.is("THE YEAR", z.count(3), 0);
    }

    private static void never() {
        Due.sentence("The first of n YEARS behind which k or more are DRY. NONE.");
        DrainedForAThird z = Due.wetThenDry();
        Due.is("first(2, 11)", z.first(2, 11), NONE);
        Due.is("first(3, 11)", z.first(3, 11), 2);
        Due.is("first(4, 12)", z.first(4, 12), NONE);
        Due.is("first(5, 12)", z.first(5, 12), 4);
        Due.is("first(30, 1) of THE RULE", new DrainedForAThird().first(30, 1), NONE);
    }

    private static void noYears() {
        Due.sentence("n YEARS (0 .. 30)");
        DrainedForAThird x = new DrainedForAThird();
        Due.is("first(0, 1)", x.first(0, 1), NONE);
        DrainedForAThird y = Due.falling();
        Due.is("first(0, 12), all DRY ahead of them", y.first(0, 12), NONE);
        Due.is("first(1, 12)", y.first(1, 12), 0);
        Due.is("first(0, 12) again", y.first(0, 12), NONE);
    }

    private static void shorterBehindLonger() {
        Due.sentence("The first of n YEARS (of these alone, whatever was thought ahead)");
        DrainedForAThird z = Due.wetThenDry();
        for (int n = 8; n >= 0; n--) {
            Due.is("first(30, 12)", z.first(30, 12), 4);
            Due.is("first(" + n + ", 12) behind 30", z.first(n, 12), n > 4 ? 4 : NONE);
            Due.is("first(" + n + ", 11) behind 30", z.first(n, 11), n > 2 ? 2 : NONE);
            Due.is("first(" + n + ", 10) behind 30", z.first(n, 10), n > 0 ? 0 : NONE);
        }
    }

    private static void behindOnly() {
        Due.sentence("The first of n YEARS behind which k or more are DRY");
        DrainedForAThird x = new DrainedForAThird();
        Due.all(x, 4, 0);
        Due.is("all DRY ahead, none behind", x.first(30, 1), NONE);
    }

    private static void orMore() {
        Due.sentence("behind which k CELLS or more are DRY");
        DrainedForAThird x = Due.emptied();
        Due.is("eleven are DRY: k 10", x.first(5, 10), 0);
        Due.is("eleven are DRY: k 11", x.first(5, 11), 0);
        Due.is("eleven are DRY: k 12", x.first(5, 12), 2);
    }

    private static void behindTheLastYear() {
        Due.sentence("(there YEAR may pass 999)");
        DrainedForAThird x = Due.emptied();
        x.set(1, 0, 999);
        Due.is("first(5, 12) from 999", x.first(5, 12), 2);
        Due.is("THE YEAR", x.count(3), 999);
    }

    private static void yearsBounds() {
        Due.sentence("BAD: n");
        DrainedForAThird x = Due.falling();
        int[] wrong = {-1, 31, Integer.MIN_VALUE, Integer.MAX_VALUE};
        for (int n : wrong) {
            Due.is("first(" + n + ", 1)", x.first(n, 1), BAD);
        }
        Due.is("first(30, 1)", x.first(30, 1), 0);
    }

    private static void cellsBounds() {
        Due.sentence("BAD: k (1 .. 12)");
        DrainedForAThird x = Due.falling();
        int[] wrong = {0, 13, -1, Integer.MIN_VALUE, Integer.MAX_VALUE};
        for (int k : wrong) {
            Due.is("first(5, " + k + ")", x.first(5, k), BAD);
            Due.is("first(0, " + k + ")", x.first(0, k), BAD);
        }
        Due.is("first(5, 1)", x.first(5, 1), 0);
        Due.is("first(5, 12)", x.first(5, 12), 0);
    }

    private static void keeps() {
        Due.sentence("Refusals change nothing");
        Twin.keeps("first(-1, 1)", x -> x.first(-1, 1), BAD);
        Twin.keeps("first(31, 1)", x -> x.first(31, 1), BAD);
        Twin.keeps("first(5, 0)", x -> x.first(5, 0), BAD);
        Twin.keeps("first(5, 13)", x -> x.first(5, 13), BAD);
        Twin.keeps("first(5, 12), which finds none", x -> x.first(5, 12), NONE);
    }
}
