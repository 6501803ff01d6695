/** Promises 12 to 15: where, idle, low, floods. */
public final class BestTest {
    private static final int NONE = -1;
    private static final int BAD = -2;
    private static final int FULL = -4;
    private static final int ALL = 4095;

    public static void main(String[] args) {
        whereOne();
        whereBesides();
        whereCounts();
        whereLast();
        whereWrong();
        idle();
        idleOfNone();
        idleThatHarms();
        idleWrong();
        low();
        lowDrained();
        lowOfAll();
        lowWrong();
        floods();
        floodsOfNone();
        floodsWrong();
        Due.end();
    }

    private static void whereOne() {
        DrainedForAThird x = Due.falling();
        x.set(4, 3, 8);
        x.set(4, 7, 8);
        Due.is("of like ones the first", x.where(8, 1, 0), 3);
        Due.is("how many", x.where(8, 1, 1), 11);
        Due.is("too weak: all alike", x.where(7, 1, 0), 0);
        Due.is("too weak: how many", x.where(7, 1, 1), 10);
        Due.is("in two years", x.where(7, 2, 0), 3);
        Due.is("a MILL of 3", x.where(23, 1, 0), 3);
        Due.is("a MILL of 2", x.where(22, 1, 0), 0);
        Due.is("a BANK", x.where(59, 1, 0), 0);
        Due.is("a BANK: how many", x.where(59, 1, 1), 10);
        Due.is("a CUT below the river, besides", x.where(18, 1, 0), 2);
        Due.is("a SLUICE below the river", x.where(38, 1, 0), 3);
        x.set(1, 0, 2);
        Due.is("a SLUICE in year 2", x.where(38, 1, 0), 0);
        Due.is("a SLUICE in years 2 and 3", x.where(38, 2, 0), 3);
        x.set(4, 3, 7);
        x.set(4, 7, 6);
        Due.is("only the last one's water", x.where(6, 1, 0), 7);
        x.set(4, 7, 0);
        x.set(4, 11, 2);
        Due.is("the last cell", x.where(2, 1, 0), 11);
        Due.is("no years", x.where(2, 0, 0), 0);
        Due.is("no years: how many", x.where(2, 0, 1), 10);
        Due.is("WORKS", x.count(0), 0);
        Due.is("THE YEAR", x.count(3), 2);
        Due.is("WATER", x.told(11, 4), 2);
    }

    private static void whereBesides() {
        DrainedForAThird x = Due.falling();
        x.set(4, 3, 8);
        x.set(4, 5, 8);
        x.set(4, 7, 8);
        Due.is("a TALL between", x.where(40, 1, 0), 4);
        Due.is("a TALL between: how many", x.where(40, 1, 1), 11);
        Due.is("a CUT between", x.where(18, 1, 0), 4);
        Due.is("a SLUICE on one", x.where(38, 1, 0), 3);
        Due.is("a SLUICE on one: how many", x.where(38, 1, 1), 10);
    }

    private static void whereCounts() {
        DrainedForAThird x = Due.falling();
        Due.read(x, "rains number;shrinks 0;calls 0;");
        x.force(2);
        Due.is("it stands there", x.where(0, 1, 1), 11);
        Due.is("it stands there and draws", x.where(1, 1, 1), 12);
        Due.is("all are alike", x.where(0, 1, 0), 0);
    }

    private static void whereLast() {
        DrainedForAThird x = Due.falling();
        x.set(0, 0, 0);
        x.set(4, 5, 8);
        x.work(1, 0, 5);
        // Half of 8 goes first, then 4.
        Due.is("behind all others", x.where(4, 1, 0), 5);
        Due.is("behind all others: how many", x.where(4, 1, 1), 12);
    }

    private static void whereWrong() {
        DrainedForAThird x = new DrainedForAThird();
        int[][] wrong = {{-1, 0, 0}, {60, 0, 0}, {Integer.MAX_VALUE, 0, 0}, {Integer.MIN_VALUE, 0, 0}, {0, -1, 0},
            {0, 31, 0}, {0, 0, -1}, {0, 0, 2}};
        for (int[] w : wrong) {
            Due.is("where(" + w[0] + ", " + w[1] + ", " + w[2] + ")", x.where(w[0], w[1], w[2]), BAD);
        }
        for (int i = 0; i < 6; i++) {
            Due.is("room for " + i, x.where(59, 30, 0), 0);
            x.work(0, 0, 0);
        }
        Due.is("no room", x.where(59, 30, 0), FULL);
        for (int[] w : wrong) {
            Due.is("no room, where(" + w[0] + ", " + w[1] + ", " + w[2] + ")", x.where(w[0], w[1], w[2]), BAD);
        }
    }

    private static void idle() {
        DrainedForAThird x = Due.falling();
        x.set(4, 3, 8);
        x.work(0, 8, 3);
        Due.is("none is idle", x.idle(1), NONE);
        x.work(0, 0, 5);
        Due.is("the second is idle", x.idle(1), 1);
        x.work(0, 9, 7);
        x.set(7, 1, 0);
        Due.is("one that does not go is not asked", x.idle(1), 2);
        x.set(7, 2, 0);
        Due.is("none that goes is idle", x.idle(1), NONE);
        x.work(0, 8, 3);
        Due.is("two for one water: the first", x.idle(1), 0);
        x.set(7, 0, 0);
        Due.is("now the other one is needed", x.idle(1), NONE);
        x.set(7, 0, 1);
        x.set(5, 0, 4);
        x.set(5, 3, 4);
        Due.is("both are needed in one year", x.idle(1), NONE);
        Due.is("in two one is enough", x.idle(2), 0);
        Due.is("no years: the first that goes", x.idle(0), 0);
        x.set(7, 0, 0);
        Due.is("no years: the next that goes", x.idle(0), 3);
        Due.is("going", x.told(3, 7), 1);
    }

    private static void idleOfNone() {
        DrainedForAThird x = new DrainedForAThird();
        Due.is("no WORKS", x.idle(5), NONE);
        Due.is("no WORKS, no years", x.idle(0), NONE);
    }

    private static DrainedForAThird banked() {
        DrainedForAThird x = Due.falling();
        x.set(2, 4, 0);
        x.set(2, 5, 50);
        x.set(4, 5, 20);
        x.work(0, 9, 9);
        x.work(5, 0, 4);
        return x;
    }

    private static void idleThatHarms() {
        DrainedForAThird x = banked();
        x.set(4, 9, 8);
        x.set(4, 4, 1);
        // Without the bank cell 5 is dry, and 4 is wet with it or without.
        Due.is("without it more are dry", x.idle(1), 1);
    }

    private static void idleWrong() {
        DrainedForAThird x = new DrainedForAThird();
        x.work(0, 0, 0);
        Due.is("idle(-1)", x.idle(-1), BAD);
        Due.is("idle(31)", x.idle(31), BAD);
        Due.is("idle(30)", x.idle(30), 0);
    }

    private static void low() {
        DrainedForAThird x = Due.falling();
        x.set(2, 0, 50);
        Due.is("a river one above the land", x.low(1, 12), 51);
        Due.is("in two years", x.low(2, 12), 51);
        Due.is("less one", x.low(1, 11), 99);
        Due.is("k of 1", x.low(1, 1), 99);
        Due.is("RIVER", x.told(0, 0), 99);
        Due.is("no years", x.low(0, 12), 99);
        x.set(4, 5, 1);
        Due.is("never all", x.low(1, 12), NONE);
        Due.is("no years, never all", x.low(0, 12), NONE);
        Due.is("no years, all but one", x.low(0, 11), 99);
    }

    private static void lowDrained() {
        DrainedForAThird x = Due.falling();
        x.set(2, 0, 50);
        x.work(0, 9, 0);
        Due.is("what comes is drawn off", x.low(1, 12), 69);
        Due.is("in thirty years", x.low(30, 12), 69);
        x.set(7, 0, 0);
        Due.is("it does not go", x.low(1, 12), 51);
    }

    private static void lowOfAll() {
        DrainedForAThird x = Due.falling();
        x.set(2, 5, 1);
        x.set(4, 5, 2);
        x.work(1, 1, 5);
        Due.is("only by a river of 0", x.low(1, 12), 0);
        Due.is("only by a river of 0, less one", x.low(1, 11), 99);
    }

    private static void lowWrong() {
        DrainedForAThird x = new DrainedForAThird();
        int[][] wrong = {{-1, 1}, {31, 1}, {0, 0}, {0, -1}, {0, 13}, {30, 13}};
        for (int[] w : wrong) {
            Due.is("low(" + w[0] + ", " + w[1] + ")", x.low(w[0], w[1]), BAD);
        }
    }

    private static void floods() {
        DrainedForAThird x = banked();
        Due.is("behind the bank", x.run(1, 0), ALL - Due.bit(5));
        Due.is("it floods", x.floods(1, 1), Due.bit(5));
        Due.is("another one does not", x.floods(0, 1), 0);
        Due.is("no years", x.floods(1, 0), 0);
        x.set(4, 8, 8);
        x.set(4, 9, 8);
        // A cell that is wet with it or without, and one that is dry only with it, are not told.
        Due.is("it floods that one alone", x.floods(1, 1), Due.bit(5));
        Due.is("what drains floods none", x.floods(0, 1), 0);
        Due.is("going", x.told(1, 7), 1);
        x.set(7, 1, 0);
        Due.is("it does not go", x.floods(1, 1), 0);
    }

    private static void floodsOfNone() {
        DrainedForAThird x = Due.falling();
        x.set(4, 4, 8);
        x.work(0, 8, 4);
        Due.is("it dries", x.floods(0, 1), 0);
    }

    private static void floodsWrong() {
        DrainedForAThird x = new DrainedForAThird();
        Due.is("no WORK", x.floods(0, 0), BAD);
        x.work(0, 0, 0);
        Due.is("floods(1, 0)", x.floods(1, 0), BAD);
        Due.is("floods(-1, 0)", x.floods(-1, 0), BAD);
        Due.is("floods(0, -1)", x.floods(0, -1), BAD);
        Due.is("floods(0, 31)", x.floods(0, 31), BAD);
        Due.is("floods(0, 30)", x.floods(0, 30), 0);
    }
}
