/** Promise 12: where. */
public final class Promise12WhereTest {
    private static final int BAD = -2;
    private static final int FULL = -4;
    private static final int LOWEST = Integer.MIN_VALUE;
    private static final int HIGHEST = Integer.MAX_VALUE;

    public static void main(String[] args) {
        whereMost();
        ofLikeOnesTheFirst();
        howMany();
        atTheEnds();
        atLast();
        noYears();
        behindAllOthers();
        besideIts();
        itStandsThere();
        behindTheLastYear();
        kindNumberBounds();
        yearsBounds();
        whatBounds();
        noRoom();
        badAheadOfFull();
        keeps();
        Due.end();
    }

    /** Two hollows, each 8 deep and full. */
    private static DrainedForAThird hollows() {
        DrainedForAThird x = Due.falling();
        x.set(4, 3, 8);
        x.set(4, 7, 8);
        return x;
    }

    private static void whereMost() {
        Due.sentence("the CELL on which, were it there behind all others, most CELLS would be DRY at last");
        DrainedForAThird x = hollows();
        x.set(4, 3, 7);
        x.set(4, 7, 6);
        Due.is("a WORK of 6", x.where(6, 1, 0), 7);
        Due.is("a WORK of 7", x.where(7, 1, 0), 3);
        Due.is("a MILL of 1", x.where(21, 1, 0), 7);
        Due.is("a MILL of 2", x.where(22, 1, 0), 3);
        Due.is("a CUT below the river, besides", x.where(17, 1, 0), 2);
        Due.is("a TALL, besides", x.where(40, 1, 0), 2);
        Due.is("a SLUICE on its own", x.where(37, 1, 0), 3);
        Due.is("a BANK", x.where(59, 1, 0), 0);
    }

    private static void ofLikeOnesTheFirst() {
        Due.sentence("of like ones the first");
        DrainedForAThird x = hollows();
        Due.is("two alike", x.where(8, 1, 0), 3);
        Due.is("too weak: all alike", x.where(7, 1, 0), 0);
        Due.is("a BANK: all alike", x.where(59, 1, 0), 0);
        DrainedForAThird y = Due.falling();
        Due.is("all are DRY without it", y.where(9, 5, 0), 0);
        Due.is("none is DRY with it", new DrainedForAThird().where(0, 5, 0), 0);
    }

    private static void howMany() {
        Due.sentence("how many are DRY (1)");
        DrainedForAThird x = hollows();
        Due.is("enough for one", x.where(8, 1, 1), 11);
        Due.is("too weak", x.where(7, 1, 1), 10);
        Due.is("all are DRY", Due.falling().where(9, 5, 1), 12);
        Due.is("none is DRY", new DrainedForAThird().where(0, 5, 1), 0);
    }

    private static void atTheEnds() {
        Due.sentence("the CELL (0 .. 11)");
        DrainedForAThird x = Due.falling();
        x.set(4, 11, 2);
        Due.is("the last", x.where(2, 1, 0), 11);
        Due.is("the last but one, besides", x.where(40, 1, 0), 10);
        DrainedForAThird y = Due.falling();
        y.set(2, 0, 90);
        y.set(4, 0, 9);
        Due.is("the first", y.where(9, 1, 0), 0);
        Due.is("the first: how many", y.where(9, 1, 1), 12);
    }

    private static void atLast() {
        Due.sentence("WHERE (a KIND, a NUMBER, n YEARS)");
        DrainedForAThird x = hollows();
        x.set(4, 3, 0);
        Due.is("in one year too weak", x.where(4, 1, 0), 0);
        Due.is("in two years", x.where(4, 2, 0), 7);
        Due.is("in thirty years", x.where(1, 30, 0), 7);
        Due.is("a NUMBER of 0 never", x.where(0, 30, 0), 0);
        x.set(1, 0, 2);
        Due.is("a SLUICE in year 2", x.where(38, 1, 0), 0);
        Due.is("a SLUICE in years 2 and 3", x.where(38, 2, 0), 7);
    }

    private static void noYears() {
        Due.sentence("n YEARS (0 .. 30)");
        DrainedForAThird x = hollows();
        Due.is("no YEARS", x.where(9, 0, 0), 0);
        Due.is("no YEARS: how many", x.where(9, 0, 1), 10);
    }

    private static void behindAllOthers() {
        Due.sentence("were it there behind all others");
        DrainedForAThird x = Due.falling();
        x.set(0, 0, 0);
        x.set(4, 5, 8);
        x.work(1, 0, 5);
        // Half of 8 goes first, then 4.
        Due.is("behind a CUT", x.where(4, 1, 0), 5);
        Due.is("behind a CUT: how many", x.where(4, 1, 1), 12);
    }

    private static void besideIts() {
        Due.sentence("SPREADS (whether it does so on both CELLS beside its own, too)");
        DrainedForAThird x = Due.falling();
        x.set(4, 3, 8);
        x.set(4, 5, 8);
        x.set(4, 7, 8);
        Due.is("a TALL between", x.where(40, 1, 0), 4);
        Due.is("a TALL between: how many", x.where(40, 1, 1), 11);
        Due.is("a CUT between", x.where(18, 1, 0), 4);
        Due.is("a SLUICE on one", x.where(38, 1, 0), 3);
        Due.is("a SLUICE on one: how many", x.where(38, 1, 1), 10);
    }

    private static void itStandsThere() {
        Due.sentence("number: how many WORKS stand there");
        DrainedForAThird x = Due.falling();
        Due.read(x, "rains number;shrinks 0;calls 0;");
        x.force(2);
        Due.is("it stands there", x.where(0, 1, 1), 11);
        Due.is("it stands there and draws", x.where(1, 1, 1), 12);
        Due.is("all are alike", x.where(0, 1, 0), 0);
    }

    private static void behindTheLastYear() {
        Due.sentence("(there YEAR may pass 999)");
        DrainedForAThird x = hollows();
        x.set(1, 0, 999);
        Due.is("in two years from 999", x.where(4, 2, 0), 3);
        Due.is("THE YEAR", x.count(3), 999);
    }

    private static void kindNumberBounds() {
        Due.sentence("(kindNumber: 10 times KIND, and NUMBER). BAD");
        DrainedForAThird x = hollows();
        int[] wrong = {-1, -10, 60, 61, 69, 100, 256, LOWEST, HIGHEST};
        for (int kindNumber : wrong) {
            Due.is("where(" + kindNumber + ", 1, 0)", x.where(kindNumber, 1, 0), BAD);
            Due.is("where(" + kindNumber + ", 0, 1)", x.where(kindNumber, 0, 1), BAD);
        }
        Due.is("where(0, 1, 1)", x.where(0, 1, 1), 10);
        Due.is("where(9, 1, 1)", x.where(9, 1, 1), 11);
        Due.is("where(10, 1, 1)", x.where(10, 1, 1), 10);
        Due.is("where(59, 1, 1)", x.where(59, 1, 1), 10);
    }

    private static void yearsBounds() {
        Due.sentence("n YEARS (0 .. 30). BAD");
        DrainedForAThird x = hollows();
        int[] wrong = {-1, 31, LOWEST, HIGHEST};
        for (int n : wrong) {
            Due.is("where(8, " + n + ", 0)", x.where(8, n, 0), BAD);
        }
        Due.is("where(8, 0, 0)", x.where(8, 0, 0), 0);
        Due.is("where(8, 30, 0)", x.where(8, 30, 0), 3);
    }

    private static void whatBounds() {
        Due.sentence("the CELL (what 0), how many are DRY (1). BAD");
        DrainedForAThird x = hollows();
        int[] wrong = {-1, 2, 3, LOWEST, HIGHEST};
        for (int what : wrong) {
            Due.is("where(8, 1, " + what + ")", x.where(8, 1, what), BAD);
        }
    }

    private static void noRoom() {
        Due.sentence("FULL: there is no room for a WORK");
        DrainedForAThird x = hollows();
        for (int i = 0; i < 6; i++) {
            Due.is("room behind " + i, x.where(8, 1, 0), 3);
            x.work(0, 0, 11);
        }
        Due.is("no room", x.where(8, 1, 0), FULL);
        Due.is("no room: how many", x.where(8, 1, 1), FULL);
        Due.is("no room, no YEARS", x.where(0, 0, 0), FULL);
        x.set(7, 0, 0);
        Due.is("one that does not go keeps its room", x.where(8, 1, 0), FULL);
    }

    private static void badAheadOfFull() {
        Due.sentence("BAD; FULL (the first that the call's words name)");
        DrainedForAThird x = Twin.fullOfWorks();
        Due.is("where(60, 1, 0)", x.where(60, 1, 0), BAD);
        Due.is("where(0, 31, 0)", x.where(0, 31, 0), BAD);
        Due.is("where(0, 1, 2)", x.where(0, 1, 2), BAD);
        Due.is("where(0, 1, 0)", x.where(0, 1, 0), FULL);
    }

    private static void keeps() {
        Due.sentence("Refusals change nothing");
        Twin.keeps("where(-1, 1, 0)", x -> x.where(-1, 1, 0), BAD);
        Twin.keeps("where(60, 1, 0)", x -> x.where(60, 1, 0), BAD);
        Twin.keeps("where(0, 31, 0)", x -> x.where(0, 31, 0), BAD);
        Twin.keeps("where(0, 1, 2)", x -> x.where(0, 1, 2), BAD);
        Twin.keeps("where(0, 1, 0), no room", Twin::fullOfWorks, x -> x.where(0, 1, 0), FULL);
        DrainedForAThird y = hollows();
        Due.is("no refusal", y.where(9, 5, 0), 3);
        Due.is("it did not come: WORKS", y.count(0), 0);
        Due.is("it did not come: WATER", y.told(3, 4), 8);
        Due.is("it did not come: THE YEAR", y.count(3), 0);
    }
}
