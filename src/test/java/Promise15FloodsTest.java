/** Promise 15: floods. */
public final class Promise15FloodsTest {
    private static final int BAD = -2;

    public static void main(String[] args) {
        thatWouldBeDry();
        notThatItDries();
        notThatAreWetAnyhow();
        notGoing();
        atBothEnds();
        noYears();
        stays();
        behindTheLastYear();
        noSuchWork();
        yearsBounds();
        keeps();
        Due.end();
    }

    private static void thatWouldBeDry() {
        Due.sentence("CELLS (bits) that are not DRY at last, but would be, did it not go");
        DrainedForAThird x = Due.banked();
        Due.is("behind the BANK", x.run(1, 0), 4095 - Due.bit(5));
        Due.is("the BANK floods", x.floods(1, 1), Due.bit(5));
        Due.is("the other one does not", x.floods(0, 1), 0);
    }

    private static void notThatItDries() {
        Due.sentence("CELLS (bits) that are not DRY at last");
        DrainedForAThird x = Due.falling();
        x.set(4, 4, 8);
        x.work(0, 8, 4);
        Due.is("it dries", x.run(1, 0), 4095);
        Due.is("what dries floods none", x.floods(0, 1), 0);
    }

    private static void notThatAreWetAnyhow() {
        Due.sentence("but would be, did it not go");
        DrainedForAThird x = Due.banked();
        x.set(4, 8, 8);
        x.set(4, 9, 8);
        // A cell that is wet with it or without, and one that is dry only with it, are not told.
        Due.is("the BANK floods that one alone", x.floods(1, 1), Due.bit(5));
        Due.is("what draws floods none", x.floods(0, 1), 0);
    }

    private static void notGoing() {
        Due.sentence("did it not go");
        DrainedForAThird x = Due.banked();
        x.set(7, 1, 0);
        Due.is("it does not go", x.floods(1, 1), 0);
    }

    private static void atBothEnds() {
        Due.sentence("CELLS (bits; 0 .. 11)");
        DrainedForAThird x = Due.falling();
        x.set(2, 11, 50);
        x.set(4, 11, 3);
        x.work(5, 0, 10);
        Due.is("CELL 11", x.floods(0, 1), Due.bit(11));
        DrainedForAThird y = Due.ruled("rains 0;shrinks 20*(year<1);calls 0;");
        Due.all(y, 4, 0);
        Due.all(y, 2, 60);
        y.set(4, 0, 2);
        y.set(0, 0, 59);
        y.work(0, 1, 0);
        // Drawn off in the first year cell 0 sinks below the river; else its water goes in two, and it does not sink.
        Due.is("CELL 0", y.floods(0, 2), Due.bit(0));
        Due.is("not in the first year", y.floods(0, 1), 0);
    }

    private static void noYears() {
        Due.sentence("n YEARS (0 .. 30)");
        Due.is("no YEARS", Due.banked().floods(1, 0), 0);
    }

    private static void stays() {
        Due.sentence("n YEARS, in thought");
        DrainedForAThird x = Due.banked();
        x.floods(1, 5);
        Due.is("it goes still", x.told(1, 7), 1);
        Due.is("THE YEAR", x.count(3), 0);
        Due.is("WATER", x.told(5, 4), 20);
    }

    private static void behindTheLastYear() {
        Due.sentence("(there YEAR may pass 999)");
        DrainedForAThird x = Due.banked();
        x.set(1, 0, 999);
        Due.is("from 999", x.floods(1, 3), Due.bit(5));
    }

    private static void noSuchWork() {
        Due.sentence("FLOODS (a WORK). BAD.");
        DrainedForAThird x = Due.falling();
        for (int works = 0; works <= 6; works++) {
            int[] wrong = {-1, works, 6, Integer.MIN_VALUE, Integer.MAX_VALUE};
            for (int work : wrong) {
                Due.is("of " + works + " floods(" + work + ", 1)", x.floods(work, 1), BAD);
                Due.is("of " + works + " floods(" + work + ", 0)", x.floods(work, 0), BAD);
            }
            Due.is("the last of " + works, works == 0 ? 0 : x.floods(works - 1, 1), 0);
            x.work(0, 1, 1);
        }
    }

    private static void yearsBounds() {
        Due.sentence("FLOODS (n YEARS; 0 .. 30). BAD.");
        DrainedForAThird x = Due.banked();
        int[] wrong = {-1, 31, Integer.MIN_VALUE, Integer.MAX_VALUE};
        for (int n : wrong) {
            Due.is("floods(1, " + n + ")", x.floods(1, n), BAD);
        }
        Due.is("floods(1, 30)", x.floods(1, 30), Due.bit(5));
    }

    private static void keeps() {
        Due.sentence("Refusals change nothing");
        Twin.keeps("floods(-1, 1)", x -> x.floods(-1, 1), BAD);
        Twin.keeps("floods(4, 1)", x -> x.floods(4, 1), BAD);
        Twin.keeps("floods(0, 31)", x -> x.floods(0, 31), BAD);
        Twin.keeps("floods(0, -1)", x -> x.floods(0, -1), BAD);
    }
}
