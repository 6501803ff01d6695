/** Promises 1 to 4: a new object, set, work, told. */
public final class FenTest {
    private static final int BAD = -2;
    private static final int FULL = -4;

    public static void main(String[] args) {
        constants();
        newObject();
        setFen();
        setCells();
        setWorks();
        setWrong();
        work();
        workWrong();
        told();
        draws();
        drawsOfCuts();
        costs();
        toldWrong();
        Due.end();
    }

    private static void constants() {
        Due.is("NONE", DrainedForAThird.NONE, -1);
        Due.is("BAD", DrainedForAThird.BAD, -2);
        Due.is("STATE", DrainedForAThird.STATE, -3);
        Due.is("FULL", DrainedForAThird.FULL, -4);
        Due.is("NO", DrainedForAThird.NO, -4611686018427387904L);
    }

    private static void newObject() {
        DrainedForAThird x = new DrainedForAThird();
        Due.is("new: WORKS", x.count(0), 0);
        Due.is("new: going", x.count(1), 0);
        Due.is("new: DRY", x.count(2), 0);
        Due.is("new: THE YEAR", x.count(3), 0);
        Due.is("new: PAID", x.count(4), 0);
        Due.is("new: TEXTS", x.count(5), 1);
        Due.is("new: THE TAPE", x.count(6), 0);
        Due.is("new: THE RULE", x.count(7), 0);
        Due.is("new: RIVER", x.told(0, 0), 35);
        Due.is("new: THE YEAR told", x.told(0, 1), 0);
        for (int c = 0; c < 12; c++) {
            Due.is("new: HEIGHT of " + c, x.told(c, 2), 40);
            Due.is("new: PEAT of " + c, x.told(c, 3), 20);
            Due.is("new: WATER of " + c, x.told(c, 4), 5);
            Due.is("new: rains on " + c, x.asks(0, c), 6);
            Due.is("new: shrinks of " + c, x.asks(1, c), 2);
        }
        for (int s = 0; s < 4; s++) {
            Due.is("new: SHEET " + s + " is missing", x.cell(s, 0, 0), -11);
        }
        Due.is("new: no image", x.back(), -3);
        Due.is("new: no work to tell", x.told(0, 8), BAD);
    }

    private static void setFen() {
        DrainedForAThird x = new DrainedForAThird();
        Due.is("set RIVER 99", x.set(0, 77, 99), 35);
        Due.is("set RIVER 0", x.set(0, -5, 0), 99);
        Due.is("told RIVER", x.told(-1, 0), 0);
        Due.is("set YEAR 999", x.set(1, 77, 999), 0);
        Due.is("set YEAR 7", x.set(1, -5, 7), 999);
        Due.is("told YEAR", x.told(99, 1), 7);
        Due.is("count YEAR", x.count(3), 7);
    }

    private static void setCells() {
        DrainedForAThird x = new DrainedForAThird();
        int[] firsts = {40, 20, 5};
        int[] mosts = {99, 99, 999};
        for (int what = 2; what <= 4; what++) {
            for (int c = 0; c < 12; c++) {
                String call = "set(" + what + ", " + c + ")";
                Due.is(call, x.set(what, c, mosts[what - 2]), firsts[what - 2]);
                Due.is(call + " 0", x.set(what, c, 0), mosts[what - 2]);
                Due.is(call + " " + c, x.set(what, c, c + what), 0);
            }
        }
        for (int what = 2; what <= 4; what++) {
            for (int c = 0; c < 12; c++) {
                Due.is("told(" + c + ", " + what + ")", x.told(c, what), c + what);
            }
        }
    }

    private static void setWorks() {
        DrainedForAThird x = new DrainedForAThird();
        x.work(0, 3, 5);
        x.work(4, 8, 11);
        Due.is("set NUMBER", x.set(5, 1, 9), 8);
        Due.is("set NUMBER 0", x.set(5, 1, 0), 9);
        Due.is("set CELL", x.set(6, 0, 11), 5);
        Due.is("set CELL 0", x.set(6, 0, 0), 11);
        Due.is("set going 0", x.set(7, 1, 0), 1);
        Due.is("set going 0 again", x.set(7, 1, 0), 0);
        Due.is("count going", x.count(1), 1);
        Due.is("told NUMBER of 0", x.told(0, 5), 3);
        Due.is("told NUMBER of 1", x.told(1, 5), 0);
        Due.is("told CELL of 0", x.told(0, 6), 0);
        Due.is("told CELL of 1", x.told(1, 6), 11);
        Due.is("told going of 0", x.told(0, 7), 1);
        Due.is("told going of 1", x.told(1, 7), 0);
        Due.is("set going 1", x.set(7, 1, 1), 0);
        Due.is("count going again", x.count(1), 2);
    }

    private static void setWrong() {
        DrainedForAThird x = new DrainedForAThird();
        x.work(0, 3, 5);
        int[][] wrong = {
            {-1, 0, 0}, {8, 0, 0}, {9, 0, 0}, {11, 0, 0}, {Integer.MIN_VALUE, 0, 0}, {Integer.MAX_VALUE, 0, 0},
            {0, 0, -1}, {0, 0, 100}, {1, 0, -1}, {1, 0, 1000},
            {2, -1, 5}, {2, 12, 5}, {2, 0, -1}, {2, 0, 100}, {3, -1, 5}, {3, 12, 5}, {3, 0, -1}, {3, 0, 100},
            {4, -1, 5}, {4, 12, 5}, {4, 0, -1}, {4, 0, 1000},
            {5, -1, 5}, {5, 1, 5}, {5, 0, -1}, {5, 0, 10}, {6, -1, 5}, {6, 1, 5}, {6, 0, -1}, {6, 0, 12},
            {7, -1, 1}, {7, 1, 1}, {7, 0, -1}, {7, 0, 2},
        };
        for (int[] w : wrong) {
            Due.is("set(" + w[0] + ", " + w[1] + ", " + w[2] + ")", x.set(w[0], w[1], w[2]), BAD);
        }
        int[] kept = {35, 0, 40, 20, 5, 3, 5, 1, 0};
        for (int what = 0; what < kept.length; what++) {
            Due.is("behind wrong ones told(0, " + what + ")", x.told(0, what), kept[what]);
        }
    }

    private static void work() {
        DrainedForAThird x = new DrainedForAThird();
        for (int kind = 0; kind < 6; kind++) {
            Due.is("work " + kind, x.work(kind, 9 - kind, 11 - 2 * kind), kind);
        }
        for (int w = 0; w < 6; w++) {
            Due.is("NUMBER of " + w, x.told(w, 5), 9 - w);
            Due.is("CELL of " + w, x.told(w, 6), 11 - 2 * w);
            Due.is("going of " + w, x.told(w, 7), 1);
            Due.is("KIND of " + w, x.told(w, 8), w);
        }
        Due.is("count WORKS", x.count(0), 6);
        Due.is("the seventh", x.work(0, 0, 0), FULL);
        Due.is("a wrong seventh: BAD ahead of FULL", x.work(6, 0, 0), BAD);
        Due.is("count WORKS still", x.count(0), 6);
    }

    private static void workWrong() {
        DrainedForAThird x = new DrainedForAThird();
        int[][] wrong = {{-1, 0, 0}, {6, 0, 0}, {0, -1, 0}, {0, 10, 0}, {0, 0, -1}, {0, 0, 12}};
        for (int[] w : wrong) {
            Due.is("work(" + w[0] + ", " + w[1] + ", " + w[2] + ")", x.work(w[0], w[1], w[2]), BAD);
        }
        Due.is("count WORKS", x.count(0), 0);
    }

    private static void told() {
        DrainedForAThird x = new DrainedForAThird();
        x.work(3, 7, 9);
        x.set(7, 0, 0);
        Due.is("told NUMBER", x.told(0, 5), 7);
        Due.is("told CELL", x.told(0, 6), 9);
        Due.is("told going", x.told(0, 7), 0);
        Due.is("told KIND", x.told(0, 8), 3);
        Due.is("told changes nothing", x.told(0, 8), 3);
    }

    private static int drawn(int kind, int number, int water, int height, int year) {
        DrainedForAThird x = new DrainedForAThird();
        x.work(kind, number, 6);
        x.set(4, 6, water);
        x.set(2, 6, height);
        x.set(1, 0, year);
        return x.told(0, 9);
    }

    private static void draws() {
        Due.is("WORK", drawn(0, 7, 100, 50, 0), 7);
        Due.is("WORK of 0", drawn(0, 0, 100, 50, 0), 0);
        Due.is("WORK, little water", drawn(0, 7, 6, 50, 0), 6);
        Due.is("MILL", drawn(2, 7, 100, 50, 0), 12);
        Due.is("MILL, little water", drawn(2, 7, 11, 50, 0), 11);
        Due.is("TALL", drawn(4, 7, 100, 50, 0), 24);
        Due.is("TALL, little water", drawn(4, 7, 23, 50, 0), 23);
        Due.is("BANK", drawn(5, 9, 100, 50, 0), 0);
        Due.is("dry: TALL", drawn(4, 7, 0, 50, 0), 0);
        DrainedForAThird x = new DrainedForAThird();
        x.work(2, 1, 3);
        x.set(7, 0, 0);
        x.set(4, 3, 50);
        Due.is("what does not go would draw", x.told(0, 9), 6);
    }

    private static void drawsOfCuts() {
        Due.is("CUT above RIVER", drawn(1, 7, 101, 36, 0), 57);
        Due.is("CUT at RIVER", drawn(1, 7, 101, 35, 0), 7);
        Due.is("CUT, little water", drawn(1, 7, 8, 36, 0), 8);
        Due.is("SLUICE above RIVER", drawn(3, 7, 101, 36, 0), 57);
        Due.is("SLUICE at RIVER", drawn(3, 7, 101, 35, 1), 7);
        Due.is("SLUICE in year 2", drawn(3, 7, 101, 36, 2), 0);
        Due.is("SLUICE in year 3", drawn(3, 7, 101, 36, 3), 57);
        Due.is("SLUICE in year 998", drawn(3, 7, 101, 36, 998), 0);
        Due.is("CUT in year 2", drawn(1, 7, 101, 36, 2), 57);
    }

    private static void costs() {
        int[] due = {7, 3, 14, 7, 18, 7};
        DrainedForAThird x = Due.ruled("rains 0;shrinks 0;calls 7;");
        for (int kind = 0; kind < 6; kind++) {
            x.work(kind, 4, 2);
            Due.is("COSTS of KIND " + kind, x.told(kind, 10), due[kind]);
        }
        DrainedForAThird first = new DrainedForAThird();
        first.work(2, 4, 2);
        Due.is("COSTS by TEXT 0", first.told(0, 10), 6);
        DrainedForAThird y = Due.ruled("rains 0;shrinks 0;calls 20*number+cell+water*(year=3);");
        y.work(0, 3, 9);
        y.work(0, 2, 9);
        y.work(0, 5, 9);
        Due.is("calls ask for NUMBER of the WORK", y.told(0, 10), 69);
        Due.is("calls of another one", y.told(1, 10), 49);
        Due.is("calls 99 at most", y.told(2, 10), 99);
        y.set(1, 0, 3);
        Due.is("calls of WATER and THE YEAR", y.told(1, 10), 54);
        DrainedForAThird z = Due.ruled("rains 0;shrinks 0;calls -5;");
        z.work(2, 3, 9);
        z.work(4, 3, 9);
        Due.is("calls 0 at least", z.told(0, 10), 0);
        Due.is("calls 0 at least, TALL", z.told(1, 10), 3);
    }

    private static void toldWrong() {
        DrainedForAThird x = new DrainedForAThird();
        x.work(0, 3, 5);
        int[][] wrong = {
            {0, -1}, {0, 11}, {0, 12}, {-1, 2}, {12, 2}, {-1, 3}, {12, 3}, {-1, 4}, {12, 4},
            {1, 5}, {-1, 5}, {1, 6}, {-1, 6}, {1, 7}, {-1, 7}, {1, 8}, {-1, 8}, {1, 9}, {-1, 9}, {1, 10}, {-1, 10},
        };
        for (int[] w : wrong) {
            Due.is("told(" + w[0] + ", " + w[1] + ")", x.told(w[0], w[1]), BAD);
        }
    }
}
