/** Promise 14: low. */
public final class Promise14LowTest {
    private static final int NONE = -1;
    private static final int BAD = -2;

    public static void main(String[] args) {
        theHighest();
        byTheHighestRiver();
        byTheLowestRiver();
        never();
        orMore();
        noYears();
        drained();
        riverStays();
        behindTheLastYear();
        yearsBounds();
        cellsBounds();
        keeps();
        Due.end();
    }

    /** The river comes onto cell 0 from 52 on. */
    private static DrainedForAThird lowered() {
        DrainedForAThird x = Due.falling();
        x.set(2, 0, 50);
        return x;
    }

    private static void theHighest() {
        Due.sentence("the highest RIVER (99 .. 0) by which k or more would be DRY at last");
        DrainedForAThird x = lowered();
        // Of a difference of 1 half is none.
        Due.is("low(1, 12)", x.low(1, 12), 51);
        Due.is("low(2, 12)", x.low(2, 12), 51);
        Due.is("low(30, 12)", x.low(30, 12), 51);
    }

    private static void byTheHighestRiver() {
        Due.sentence("the highest RIVER (99 .. 0)");
        DrainedForAThird x = lowered();
        Due.is("any RIVER: low(1, 11)", x.low(1, 11), 99);
        Due.is("any RIVER: low(1, 1)", x.low(1, 1), 99);
        x.set(2, 0, 97);
        Due.is("one that is high: low(1, 12)", x.low(1, 12), 98);
        x.set(2, 0, 98);
        Due.is("the highest: low(1, 12)", x.low(1, 12), 99);
    }

    private static void byTheLowestRiver() {
        Due.sentence("the highest RIVER (99 .. 0)");
        DrainedForAThird x = Due.falling();
        x.set(2, 5, 1);
        x.set(4, 5, 2);
        x.work(1, 1, 5);
        // Only above a river of 0 the CUT draws half of 2, and 1 more.
        Due.is("only by a river of 0", x.low(1, 12), 0);
        Due.is("less one CELL", x.low(1, 11), 99);
        x.set(2, 5, 2);
        Due.is("by a river of 1 and 0", x.low(1, 12), 1);
        x.set(2, 5, 0);
        Due.is("by none", x.low(1, 12), NONE);
    }

    private static void never() {
        Due.sentence("LOW; NONE");
        DrainedForAThird x = lowered();
        x.set(4, 5, 1);
        Due.is("low(1, 12)", x.low(1, 12), NONE);
        Due.is("low(30, 12)", x.low(30, 12), NONE);
        Due.is("low(1, 11)", x.low(1, 11), 51);
    }

    private static void orMore() {
        Due.sentence("by which k or more would be DRY at last");
        DrainedForAThird x = lowered();
        for (int k = 1; k <= 11; k++) {
            Due.is("low(3, " + k + ")", x.low(3, k), 99);
        }
    }

    private static void noYears() {
        Due.sentence("n YEARS (0 .. 30)");
        DrainedForAThird x = lowered();
        Due.is("low(0, 12)", x.low(0, 12), 99);
        x.set(4, 5, 1);
        Due.is("low(0, 12), one wet", x.low(0, 12), NONE);
        Due.is("low(0, 11), one wet", x.low(0, 11), 99);
    }

    private static void drained() {
        Due.sentence("by which k or more would be DRY at last");
        DrainedForAThird x = lowered();
        x.work(0, 9, 0);
        Due.is("what comes is drawn off", x.low(1, 12), 69);
        Due.is("in thirty years", x.low(30, 12), 69);
        x.set(7, 0, 0);
        Due.is("it does not go", x.low(1, 12), 51);
    }

    private static void riverStays() {
        Due.sentence("n YEARS, in thought");
        DrainedForAThird x = lowered();
        x.low(1, 12);
        x.low(5, 11);
        Due.is("RIVER", x.told(0, 0), 99);
        Due.is("THE YEAR", x.count(3), 0);
    }

    private static void behindTheLastYear() {
        Due.sentence("(there YEAR may pass 999)");
        DrainedForAThird x = lowered();
        x.set(1, 0, 999);
        Due.is("low(5, 12) from 999", x.low(5, 12), 51);
    }

    private static void yearsBounds() {
        Due.sentence("BAD: n");
        DrainedForAThird x = lowered();
        int[] wrong = {-1, 31, Integer.MIN_VALUE, Integer.MAX_VALUE};
        for (int n : wrong) {
            Due.is("low(" + n + ", 1)", x.low(n, 1), BAD);
        }
        Due.is("low(30, 1)", x.low(30, 1), 99);
        Due.is("low(0, 1)", x.low(0, 1), 99);
    }

    private static void cellsBounds() {
        Due.sentence("BAD: n, k (1 .. 12)");
        DrainedForAThird x = lowered();
        int[] wrong = {0, 13, -1, Integer.MIN_VALUE, Integer.MAX_VALUE};
        for (int k : wrong) {
            Due.is("low(5, " + k + ")", x.low(5, k), BAD);
            Due.is("low(0, " + k + ")", x.low(0, k), BAD);
        }
        Due.is("low(5, 12)", x.low(5, 12), 51);
    }

    private static void keeps() {
        Due.sentence("Refusals change nothing");
        Twin.keeps("low(-1, 1)", x -> x.low(-1, 1), BAD);
        Twin.keeps("low(31, 1)", x -> x.low(31, 1), BAD);
        Twin.keeps("low(5, 0)", x -> x.low(5, 0), BAD);
        Twin.keeps("low(5, 13)", x -> x.low(5, 13), BAD);
        Twin.keeps("low(5, 12), which finds none", x -> x.low(5, 12), NONE);
    }
}
