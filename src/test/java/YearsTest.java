/** Promises 9 to 11: year, run, first. */
public final class YearsTest {
    private static final int NONE = -1;
    private static final int BAD = -2;
    private static final int STATE = -3;

    public static void main(String[] args) {
        yearOfTheRule();
        rain();
        flow();
        flowIsBound();
        flowHeld();
        river();
        riverHeld();
        draws();
        drawsBesides();
        drawsByNumbers();
        paid();
        shrinks();
        yearEnds();
        runIsThought();
        runOfCells();
        runOfNone();
        judgedAndKept();
        yearsBehindTheLast();
        runWrong();
        first();
        firstWrong();
        Due.end();
    }

    private static void waters(String when, DrainedForAThird x, int... due) {
        for (int c = 0; c < due.length; c++) {
            Due.is(when + ": WATER of " + c, x.told(c, 4), due[c]);
        }
    }

    private static void yearOfTheRule() {
        DrainedForAThird x = new DrainedForAThird();
        Due.is("year()", x.year(), 0);
        Due.is("THE YEAR", x.count(3), 1);
        Due.is("PAID", x.count(4), 0);
        // 5 and 6 of rain, and of 51 - 35 above the river half is gone.
        waters("THE RULE", x, 3, 11, 11, 11, 11, 11, 11, 11, 11, 11, 11, 11);
        Due.is("year()", x.year(), 0);
        // Now 17 on cell 1 and 9 on cell 0, so 4 flow; cell 0 stands 18 above the river.
        waters("THE RULE again", x, 4, 13, 17, 17, 17, 17, 17, 17, 17, 17, 17, 17);
    }

    private static void rain() {
        DrainedForAThird x = Due.ruled("rains 10*(cell=5)+water*(cell=2)+year+20*number;shrinks 0;calls 0;");
        // No cell comes to stand higher than the one ahead of it, nor the first than the river: all stays where it falls.
        Due.row(x, 2, 95, 90, 70, 60, 55, 40, 40, 38, 10, 5, 4, 3);
        Due.row(x, 4, 0, 0, 7, 0, 0, 0, 0, 0, 0, 0, 0, 0);
        x.set(0, 0, 99);
        x.set(1, 0, 4);
        x.work(5, 0, 8);
        x.set(7, 0, 0);
        x.year();
        waters("rain", x, 4, 4, 18, 4, 4, 14, 4, 4, 24, 4, 4, 4);
        DrainedForAThird y = Due.ruled("rains 50;shrinks 0;calls 0;");
        Due.all(y, 2, 0);
        Due.all(y, 4, 990);
        y.set(4, 11, 949);
        y.set(0, 0, 99);
        y.year();
        // Of 999 on cell 0, 900 above the river, half is gone.
        waters("rain, 999 at most", y, 549, 999, 999, 999, 999, 999, 999, 999, 999, 999, 999, 999);
    }

    private static void flow() {
        DrainedForAThird x = Due.dryRuled();
        x.set(0, 0, 99);
        Due.all(x, 4, 0);
        Due.all(x, 2, 50);
        x.set(2, 0, 99);
        x.set(4, 11, 101);
        // From 11 to 1 in one year: half of what stands higher goes on and on.
        Due.is("flow", x.year(), 5);
        waters("flow", x, 0, 0, 0, 0, 0, 1, 2, 3, 6, 13, 25, 51);
        DrainedForAThird y = Due.dryRuled();
        Due.all(y, 4, 10);
        Due.row(y, 2, 99, 90, 80, 80, 70, 60, 61, 59, 50, 40, 30, 20);
        y.set(0, 0, 99);
        y.set(4, 0, 0);
        y.year();
        // Only cell 6 stands higher than the next one to the river, by 1, of which half (cut) is none.
        waters("no flow", y, 0, 10, 10, 10, 10, 10, 10, 10, 10, 10, 10, 10);
    }

    private static void flowIsBound() {
        DrainedForAThird x = Due.dryRuled();
        Due.all(x, 4, 0);
        Due.all(x, 2, 99);
        x.set(0, 0, 99);
        x.set(2, 4, 0);
        x.set(4, 5, 20);
        x.set(2, 6, 99);
        x.year();
        // Half of 119 is 59, but there are 20.
        Due.is("no more than its WATER", x.told(5, 4), 0);
        Due.is("what flows comes", x.told(4, 4), 20);
        DrainedForAThird y = Due.dryRuled();
        Due.all(y, 4, 0);
        y.set(0, 0, 99);
        Due.all(y, 2, 99);
        y.set(2, 4, 0);
        y.set(4, 4, 950);
        y.set(4, 5, 999);
        y.set(2, 3, 99);
        y.set(4, 3, 999);
        y.year();
        // 148 more stand on cell 5: 74 flow, and 999 stay at most.
        Due.is("what flows is gone", y.told(5, 4), 925);
        Due.is("999 at most", y.told(4, 4), 999);
    }

    private static void flowHeld() {
        DrainedForAThird x = Due.dryRuled();
        x.set(0, 0, 99);
        Due.all(x, 2, 50);
        Due.all(x, 4, 0);
        x.set(2, 0, 99);
        x.set(4, 5, 100);
        x.work(5, 3, 4);
        x.year();
        waters("a BANK holds", x, 0, 0, 0, 0, 0, 100, 0);
        x.set(7, 0, 0);
        Due.is("a BANK that does not go: WATER of 4", x.run(1, 304), 25);
        x.set(7, 0, 1);
        x.set(6, 0, 5);
        // It holds back what comes onto its cell, not what leaves it.
        Due.is("a BANK on the cell above: WATER of 5", x.run(1, 305), 50);
        for (int kind = 0; kind < 5; kind++) {
            DrainedForAThird y = Due.dryRuled();
            y.set(0, 0, 99);
            Due.all(y, 2, 50);
            Due.all(y, 4, 0);
            y.set(2, 0, 99);
            y.set(4, 5, 100);
            y.work(kind, 0, 4);
            Due.is("KIND " + kind + " does not hold", y.run(1, 305) < 100 ? 1 : 0, 1);
        }
    }

    private static int besideRiver(int river, int height, int water) {
        DrainedForAThird x = Due.dryRuled();
        Due.all(x, 4, 0);
        Due.all(x, 2, 0);
        x.set(0, 0, river);
        x.set(2, 0, height);
        x.set(4, 0, water);
        x.year();
        return x.told(0, 4);
    }

    private static void river() {
        Due.is("above the river", besideRiver(35, 40, 20), 8);
        Due.is("above the river, little water", besideRiver(10, 60, 20), 0);
        Due.is("above the river by 1", besideRiver(35, 30, 6), 6);
        Due.is("above the river by 2", besideRiver(35, 30, 7), 6);
        Due.is("as high as the river", besideRiver(35, 30, 5), 5);
        Due.is("below the river by 1", besideRiver(35, 30, 4), 4);
        Due.is("below the river by 2", besideRiver(35, 30, 3), 4);
        Due.is("below the river", besideRiver(99, 1, 5), 51);
        Due.is("dry below the river", besideRiver(99, 0, 0), 49);
        DrainedForAThird x = Due.dryRuled();
        x.set(0, 0, 0);
        Due.all(x, 4, 0);
        Due.all(x, 2, 0);
        x.set(4, 1, 10);
        x.year();
        // Flow from cell 1 comes ahead of what the river takes.
        waters("flow, then the river", x, 3, 5, 0);
    }

    private static void riverHeld() {
        DrainedForAThird x = Due.dryRuled();
        Due.all(x, 4, 0);
        Due.all(x, 2, 0);
        x.set(0, 0, 50);
        x.work(5, 1, 0);
        Due.is("a BANK holds the river back", x.run(1, 300), 0);
        x.set(7, 0, 0);
        Due.is("a BANK that does not go", x.run(1, 300), 25);
        x.set(7, 0, 1);
        x.set(6, 0, 1);
        Due.is("a BANK elsewhere", x.run(1, 300), 25);
        x.set(6, 0, 0);
        x.set(4, 0, 80);
        Due.is("a BANK does not hold what goes to the river", x.run(1, 300), 65);
        x.set(4, 1, 120);
        x.set(0, 0, 99);
        Due.is("a BANK holds what comes from above", x.run(1, 301), 120);
        for (int kind = 0; kind < 5; kind++) {
            DrainedForAThird y = Due.dryRuled();
            Due.all(y, 4, 0);
            Due.all(y, 2, 0);
            y.set(0, 0, 90);
            y.work(kind, 0, 0);
            Due.is("KIND " + kind + " does not hold the river", y.run(1, 300), kind == 2 ? 40 : kind == 4 ? 35 : 45);
        }
    }

    /** All of one level, so that nothing flows; the river as high. */
    private static DrainedForAThird level(int water, int height) {
        DrainedForAThird x = Due.dryRuled();
        Due.all(x, 4, water);
        Due.all(x, 2, height);
        x.set(0, 0, water + height);
        return x;
    }

    private static void draws() {
        int[] due = {56, 56, 51, 56, 42, 60};
        for (int kind = 0; kind < 6; kind++) {
            DrainedForAThird x = level(60, 30);
            x.work(kind, 4, 6);
            x.year();
            // The land is below the river: a CUT draws as a WORK.
            Due.is("KIND " + kind + " draws", x.told(6, 4), due[kind]);
            DrainedForAThird y = level(60, 30);
            y.work(kind, 4, 6);
            y.set(7, 0, 0);
            y.year();
            Due.is("KIND " + kind + " that does not go", y.told(6, 4), 60);
        }
        DrainedForAThird z = level(5, 30);
        z.work(2, 0, 7);
        Due.is("DRY behind what draws all", z.year(), 1);
    }

    private static void drawsBesides() {
        for (int kind = 0; kind < 6; kind++) {
            DrainedForAThird x = level(60, 30);
            x.work(kind, 4, 6);
            x.year();
            int own = 60 - x.told(6, 4);
            int besides = kind == 1 || kind == 4 ? own : 0;
            Due.is("KIND " + kind + " below", x.told(5, 4), 60 - besides);
            Due.is("KIND " + kind + " above", x.told(7, 4), 60 - besides);
            Due.is("KIND " + kind + " farther below", x.told(4, 4), 60);
            Due.is("KIND " + kind + " farther above", x.told(8, 4), 60);
        }
        DrainedForAThird y = level(60, 30);
        y.work(4, 4, 0);
        y.work(4, 4, 11);
        y.year();
        waters("at both ends", y, 42, 42, 60, 60, 60, 60, 60, 60, 60, 60, 42, 42);
        DrainedForAThird z = Due.dryRuled();
        z.set(0, 0, 35);
        Due.row(z, 2, 40, 40, 40, 30, 35, 38, 34, 60, 60, 60, 60, 60);
        Due.row(z, 4, 0, 0, 6, 16, 11, 9, 0, 0, 0, 0, 0, 0);
        z.work(1, 2, 4);
        // Each by its own water and land: half of the water only where the land is above the river.
        z.year();
        waters("a CUT besides", z, 0, 2, 3, 14, 9, 3);
    }

    private static void drawsByNumbers() {
        DrainedForAThird x = level(60, 30);
        x.set(0, 0, 29);
        x.work(0, 9, 8);
        x.work(1, 0, 8);
        // 60 less 9 is 51, and half of it (25) goes.
        Due.is("a WORK, then a CUT", x.run(1, 308), 26);
        DrainedForAThird y = level(60, 30);
        y.set(0, 0, 29);
        y.work(1, 0, 8);
        y.work(0, 9, 8);
        Due.is("a CUT, then a WORK", y.run(1, 308), 21);
        DrainedForAThird z = level(60, 30);
        z.set(0, 0, 29);
        z.work(1, 0, 8);
        z.work(1, 0, 7);
        // 60, 30 behind the first; half of that again on 8 and 7, where the first was besides.
        Due.is("two CUTS: WATER of 8", z.run(1, 308), 15);
        Due.is("two CUTS: WATER of 7", z.run(1, 307), 15);
        Due.is("two CUTS: WATER of 9", z.run(1, 309), 30);
        Due.is("two CUTS: WATER of 6", z.run(1, 306), 30);
    }

    private static void paid() {
        DrainedForAThird x = Due.ruled("rains 0;shrinks 0;calls 10+number;");
        for (int kind = 0; kind < 6; kind++) {
            x.work(kind, kind, kind);
        }
        // 10, 5, 24, 6 + 3, 28 + 4, 15.
        x.year();
        Due.is("PAID", x.count(4), 95);
        Due.is("PAID in thought", x.run(3, 1), 285);
        x.set(7, 4, 0);
        x.year();
        Due.is("PAID, one does not go", x.count(4), 158);
        Due.is("PAID in no years", x.run(0, 1), 0);
        DrainedForAThird y = Due.ruled("rains 0;shrinks 0;calls water;");
        Due.all(y, 2, 30);
        y.set(0, 0, 90);
        Due.all(y, 4, 60);
        y.work(0, 9, 6);
        y.work(0, 9, 6);
        y.year();
        // Calls come behind what is drawn: 51 and 42 are on it then.
        Due.is("PAID by WATER", y.count(4), 93);
    }

    private static void shrinks() {
        DrainedForAThird x = Due.ruled("rains 0;shrinks 3+cell+year+20*(water<0)+number;calls 0;");
        Due.all(x, 4, 0);
        x.set(0, 0, 0);
        for (int c = 0; c < 12; c++) {
            x.set(2, c, 99 - 9 * c);
        }
        x.set(3, 1, 2);
        x.set(2, 2, 1);
        x.set(4, 3, 1);
        x.work(5, 0, 3);
        x.work(5, 0, 4);
        x.set(2, 3, 0);
        x.set(1, 0, 10);
        x.year();
        Due.is("HEIGHT of 0", x.told(0, 2), 86);
        Due.is("PEAT of 0", x.told(0, 3), 7);
        Due.is("HEIGHT of 1, as PEAT bounds", x.told(1, 2), 88);
        Due.is("PEAT of 1", x.told(1, 3), 0);
        Due.is("HEIGHT of 2, as HEIGHT bounds", x.told(2, 2), 0);
        Due.is("PEAT of 2", x.told(2, 3), 19);
        Due.is("HEIGHT of 3, which is wet", x.told(3, 2), 0);
        Due.is("PEAT of 3, which is wet", x.told(3, 3), 20);
        Due.is("HEIGHT of 4, with a WORK", x.told(4, 2), 45);
        Due.is("PEAT of 4, with a WORK", x.told(4, 3), 2);
        Due.is("HEIGHT of 11, 20 at most", x.told(11, 2), 0);
        Due.is("PEAT of 11", x.told(11, 3), 20);
        Due.is("HEIGHT of 8, 20 at most", x.told(8, 2), 7);
        Due.is("PEAT of 8", x.told(8, 3), 0);
    }

    private static void yearEnds() {
        DrainedForAThird x = new DrainedForAThird();
        x.set(1, 0, 998);
        Due.is("year 998", x.year(), 0);
        Due.is("THE YEAR", x.count(3), 999);
        int water = x.told(4, 4);
        Due.is("year 999", x.year(), STATE);
        Due.is("THE YEAR still", x.count(3), 999);
        Due.is("WATER still", x.told(4, 4), water);
    }

    private static void runIsThought() {
        DrainedForAThird x = new DrainedForAThird();
        x.work(4, 9, 5);
        int dry = x.run(7, 0);
        int paid = x.run(7, 1);
        int water = x.run(7, 303);
        Due.is("THE YEAR", x.count(3), 0);
        Due.is("PAID", x.count(4), 0);
        Due.is("WATER", x.told(3, 4), 5);
        for (int i = 0; i < 7; i++) {
            x.year();
        }
        Due.is("PAID truly", x.count(4), paid);
        Due.is("WATER truly", x.told(3, 4), water);
        Due.is("DRY truly", x.run(0, 0), dry);
        Due.is("DRY", x.count(2), Integer.bitCount(dry));
    }

    private static void runOfCells() {
        DrainedForAThird x = new DrainedForAThird();
        for (int c = 0; c < 12; c++) {
            x.set(2, c, 50 - c);
            x.set(3, c, 20 - c);
            x.set(4, c, 3 * c);
        }
        for (int c = 0; c < 12; c++) {
            Due.is("HEIGHT of " + c, x.run(0, 100 + c), 50 - c);
            Due.is("PEAT of " + c, x.run(0, 200 + c), 20 - c);
            Due.is("WATER of " + c, x.run(0, 300 + c), 3 * c);
        }
    }

    private static void runOfNone() {
        DrainedForAThird x = new DrainedForAThird();
        x.set(4, 7, 0);
        x.set(4, 11, 0);
        Due.is("DRY at last, no years", x.run(0, 0), Due.bit(7, 11));
        Due.is("PAID, no years", x.run(0, 1), 0);
        Due.is("JUDGED, no years", x.run(0, 2), NONE);
        Due.is("DRY then, no years", x.run(0, 3), NONE);
        Due.is("KEPT, no years", x.run(0, 4), 0);
    }

    private static void judgedAndKept() {
        DrainedForAThird z = wetThenDry();
        int[] dry = {10, 10, 11, 11, 12, 12, 11, 12};
        int[] judged = {0, 0, 2, 2, 4, 4, 4, 4};
        int[] kept = {1, 2, 3, 4, 5, 6, 6, 7};
        for (int n = 1; n <= 8; n++) {
            Due.is("DRY at last of " + n, Integer.bitCount(z.run(n, 0)), dry[n - 1]);
            Due.is("JUDGED of " + n, z.run(n, 2), judged[n - 1]);
            Due.is("DRY then of " + n, z.run(n, 3), dry[judged[n - 1]]);
            Due.is("KEPT of " + n, z.run(n, 4), kept[n - 1]);
        }
        DrainedForAThird x = new DrainedForAThird();
        Due.is("JUDGED, none DRY", x.run(5, 2), 0);
        Due.is("DRY then, none DRY", x.run(5, 3), 0);
        Due.is("KEPT, none DRY", x.run(5, 4), 5);
        DrainedForAThird y = new DrainedForAThird();
        Due.all(y, 4, 0);
        // All DRY ahead of the first YEAR does not count: 12, then none behind any.
        Due.is("KEPT, all DRY ahead", y.run(3, 4), 3);
    }

    /** Two lone cells in hollows that mills empty, by rain on them in years 0 to 3 and 6. */
    private static DrainedForAThird wetThenDry() {
        DrainedForAThird z = Due.ruled("rains 14*(cell=9 and year<4)+14*(cell=5 and year<2)+14*(cell=9 and year=6);"
            + "shrinks 0;calls 1;");
        Due.all(z, 4, 0);
        Due.all(z, 2, 99);
        z.set(2, 9, 0);
        z.set(2, 5, 0);
        z.set(0, 0, 99);
        z.set(4, 9, 0);
        z.work(2, 8, 9);
        z.work(2, 8, 5);
        return z;
    }

    private static void yearsBehindTheLast() {
        DrainedForAThird x = Due.ruled("rains 0;shrinks 0;calls (998<year)+(999<year)*10+(1000<year)*50;");
        x.work(0, 0, 0);
        x.set(1, 0, 998);
        Due.is("PAID 998", x.run(1, 1), 0);
        Due.is("PAID 999", x.run(2, 1), 1);
        Due.is("PAID 1000", x.run(3, 1), 12);
        Due.is("PAID 1001", x.run(4, 1), 73);
        x.set(1, 0, 999);
        Due.is("PAID from 999", x.run(1, 1), 1);
    }

    private static void runWrong() {
        DrainedForAThird x = new DrainedForAThird();
        int[][] wrong = {
            {-1, 0}, {31, 0}, {Integer.MAX_VALUE, 0}, {Integer.MIN_VALUE, 0}, {0, -1}, {0, 5}, {0, 99}, {0, 112}, {0, 199},
            {0, 212}, {0, 299}, {0, 312}, {0, 399}, {0, 400}, {0, 411}, {0, -100}, {0, -305}, {0, 11}, {0, 1100},
            {0, Integer.MAX_VALUE}, {0, Integer.MIN_VALUE},
        };
        for (int[] w : wrong) {
            Due.is("run(" + w[0] + ", " + w[1] + ")", x.run(w[0], w[1]), BAD);
        }
        Due.is("run(30, 311)", x.run(30, 311), 180);
    }

    private static void first() {
        DrainedForAThird z = wetThenDry();
        int[] first = {0, 0, 0, 0, 0, 0, 0, 0, 0, 0, 2, 4};
        for (int k = 1; k <= 12; k++) {
            Due.is("first(8, " + k + ")", z.first(8, k), first[k - 1]);
        }
        Due.is("first(2, 11)", z.first(2, 11), NONE);
        Due.is("first(3, 11)", z.first(3, 11), 2);
        Due.is("first(4, 12)", z.first(4, 12), NONE);
        Due.is("first(5, 12)", z.first(5, 12), 4);
        Due.is("first(0, 1)", z.first(0, 1), NONE);
        Due.is("first(30, 12)", z.first(30, 12), 4);
        Due.is("THE YEAR", z.count(3), 0);
    }

    private static void firstWrong() {
        DrainedForAThird x = new DrainedForAThird();
        int[][] wrong = {{-1, 1}, {31, 1}, {0, 0}, {0, -1}, {0, 13}, {30, 13}, {Integer.MAX_VALUE, 1}};
        for (int[] w : wrong) {
            Due.is("first(" + w[0] + ", " + w[1] + ")", x.first(w[0], w[1]), BAD);
        }
    }
}
