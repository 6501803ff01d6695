/** Promise 2: set. */
public final class Promise02SetTest {
    private static final int BAD = -2;
    private static final int LOWEST = Integer.MIN_VALUE;
    private static final int HIGHEST = Integer.MAX_VALUE;
    private static final int[] ANYWHERE = {LOWEST, -1, 0, 5, 11, 12, HIGHEST};

    public static void main(String[] args) {
        riverOfDoesNotMatter();
        yearOfDoesNotMatter();
        riverBounds();
        yearBounds();
        heightBounds();
        peatBounds();
        waterBounds();
        numberBounds();
        cellBounds();
        goingBounds();
        whatItWas();
        eachAlone();
        dry();
        whatBounds();
        noSuchCell();
        noSuchWork();
        keeps();
        Due.end();
    }

    private static void riverOfDoesNotMatter() {
        Due.sentence("RIVER (what 0; of does not matter)");
        DrainedForAThird x = new DrainedForAThird();
        int was = 35;
        for (int i = 0; i < ANYWHERE.length; i++) {
            Due.is("set(0, " + ANYWHERE[i] + ", " + i + ")", x.set(0, ANYWHERE[i], i), was);
            Due.is("RIVER", x.told(0, 0), i);
            was = i;
        }
    }

    private static void yearOfDoesNotMatter() {
        Due.sentence("THE YEAR (1; nor)");
        DrainedForAThird x = new DrainedForAThird();
        int was = 0;
        for (int i = 0; i < ANYWHERE.length; i++) {
            Due.is("set(1, " + ANYWHERE[i] + ", " + (7 + i) + ")", x.set(1, ANYWHERE[i], 7 + i), was);
            Due.is("THE YEAR", x.told(0, 1), 7 + i);
            was = 7 + i;
        }
    }

    /** The bounds are taken, what lies outside is BAD and leaves what was. */
    private static void bounds(DrainedForAThird x, int what, int of, int first, int most) {
        String call = "set(" + what + ", " + of + ", ";
        int[] outside = {-1, most + 1, LOWEST, HIGHEST, -most, most + 256, most + 65536};
        Due.is(call + most + ")", x.set(what, of, most), first);
        for (int v : outside) {
            Due.is(call + v + ")", x.set(what, of, v), BAD);
        }
        Due.is(call + "0)", x.set(what, of, 0), most);
        for (int v : outside) {
            Due.is(call + v + ")", x.set(what, of, v), BAD);
        }
        Due.is("told(" + of + ", " + what + ")", x.told(of, what), 0);
        Due.is(call + "1)", x.set(what, of, 1), 0);
    }

    private static void riverBounds() {
        Due.sentence("RIVER: how high it stands (0 .. 99)");
        bounds(new DrainedForAThird(), 0, 0, 35, 99);
    }

    private static void yearBounds() {
        Due.sentence("THE YEAR (0 .. 999)");
        bounds(new DrainedForAThird(), 1, 0, 0, 999);
    }

    private static void heightBounds() {
        Due.sentence("HEIGHT (0 .. 99)");
        for (int c = 0; c < 12; c++) {
            bounds(new DrainedForAThird(), 2, c, 40, 99);
        }
    }

    private static void peatBounds() {
        Due.sentence("PEAT (0 .. 99)");
        for (int c = 0; c < 12; c++) {
            bounds(new DrainedForAThird(), 3, c, 20, 99);
        }
    }

    private static void waterBounds() {
        Due.sentence("WATER (0 .. 999)");
        for (int c = 0; c < 12; c++) {
            bounds(new DrainedForAThird(), 4, c, 5, 999);
        }
    }

    private static DrainedForAThird worked() {
        DrainedForAThird x = new DrainedForAThird();
        for (int kind = 0; kind < 6; kind++) {
            x.work(kind, 3, 5);
        }
        return x;
    }

    private static void numberBounds() {
        Due.sentence("a NUMBER (0 .. 9)");
        for (int w = 0; w < 6; w++) {
            bounds(worked(), 5, w, 3, 9);
        }
    }

    private static void cellBounds() {
        Due.sentence("stand on a CELL (0 .. 11)");
        for (int w = 0; w < 6; w++) {
            bounds(worked(), 6, w, 5, 11);
        }
    }

    private static void goingBounds() {
        Due.sentence("go (1, as one comes) or not (0)");
        for (int w = 0; w < 6; w++) {
            bounds(worked(), 7, w, 1, 1);
        }
    }

    private static void whatItWas() {
        Due.sentence("becomes v: what it was");
        DrainedForAThird x = worked();
        for (int what = 0; what <= 7; what++) {
            int was = x.told(4, what);
            Due.is("set(" + what + ") as it is", x.set(what, 4, was), was);
            Due.is("set(" + what + ") otherwise", x.set(what, 4, 1 - was % 2), was);
            Due.is("set(" + what + ") back", x.set(what, 4, was), 1 - was % 2);
            Due.is("told(4, " + what + ")", x.told(4, what), was);
        }
    }

    private static void eachAlone() {
        Due.sentence("HEIGHT (2), PEAT (3), WATER (4) of a CELL, NUMBER (5), the CELL (6), going (7) of a WORK");
        DrainedForAThird x = worked();
        for (int what = 2; what <= 4; what++) {
            for (int c = 0; c < 12; c++) {
                x.set(what, c, 10 * what + c);
            }
        }
        for (int w = 0; w < 6; w++) {
            x.set(5, w, 9 - w);
            x.set(6, w, 2 * w);
            x.set(7, w, w % 2);
        }
        for (int c = 0; c < 12; c++) {
            Due.is("HEIGHT of " + c, x.told(c, 2), 20 + c);
            Due.is("PEAT of " + c, x.told(c, 3), 30 + c);
            Due.is("WATER of " + c, x.told(c, 4), 40 + c);
        }
        for (int w = 0; w < 6; w++) {
            Due.is("NUMBER of " + w, x.told(w, 5), 9 - w);
            Due.is("CELL of " + w, x.told(w, 6), 2 * w);
            Due.is("going of " + w, x.told(w, 7), w % 2);
            Due.is("KIND of " + w, x.told(w, 8), w);
        }
        Due.is("WORKS that go", x.count(1), 3);
    }

    private static void dry() {
        Due.sentence("it is DRY, if its WATER is 0");
        for (int c = 0; c < 12; c++) {
            DrainedForAThird x = new DrainedForAThird();
            x.set(4, c, 1);
            Due.is("WATER 1 on " + c, x.run(0, 0), 0);
            x.set(4, c, 0);
            Due.is("WATER 0 on " + c, x.run(0, 0), 1 << c);
            Due.is("how many", x.count(2), 1);
        }
    }

    private static void whatBounds() {
        Due.sentence("RIVER (what 0 ..), .. going (7) of a WORK becomes v. BAD.");
        DrainedForAThird x = worked();
        int[] wrong = {-1, 8, 9, 10, 11, -100, 100, LOWEST, HIGHEST};
        for (int what : wrong) {
            Due.is("set(" + what + ", 0, 0)", x.set(what, 0, 0), BAD);
            Due.is("set(" + what + ", 0, 1)", x.set(what, 0, 1), BAD);
        }
        Due.is("KIND still", x.told(0, 8), 0);
    }

    private static void noSuchCell() {
        Due.sentence("HEIGHT (2), PEAT (3), WATER (4) of a CELL. BAD.");
        DrainedForAThird x = worked();
        for (int what = 2; what <= 4; what++) {
            Due.is("set(" + what + ", -1, 5)", x.set(what, -1, 5), BAD);
            Due.is("set(" + what + ", 12, 5)", x.set(what, 12, 5), BAD);
            Due.is("set(" + what + ", lowest, 5)", x.set(what, LOWEST, 5), BAD);
            Due.is("set(" + what + ", highest, 5)", x.set(what, HIGHEST, 5), BAD);
            Due.holds("set(" + what + ", 11, 5) is taken", x.set(what, 11, 5) >= 0);
        }
    }

    private static void noSuchWork() {
        Due.sentence("NUMBER (5), the CELL (6), going (7) of a WORK. BAD.");
        DrainedForAThird x = new DrainedForAThird();
        for (int works = 0; works <= 6; works++) {
            for (int what = 5; what <= 7; what++) {
                Due.is("of " + works + " set(" + what + ", -1, 1)", x.set(what, -1, 1), BAD);
                Due.is("of " + works + " set(" + what + ", " + works + ", 1)", x.set(what, works, 1), BAD);
                Due.is("of " + works + " set(" + what + ", highest, 1)", x.set(what, HIGHEST, 1), BAD);
                Due.holds("the last of " + works + " is set", works == 0 || x.set(what, works - 1, 1) >= 0);
            }
            x.work(0, 0, 0);
        }
    }

    private static void keeps() {
        Due.sentence("Refusals change nothing");
        int[][] wrong = {
            {-1, 0, 0}, {8, 0, 0}, {0, 0, -1}, {0, 0, 100}, {1, 0, -1}, {1, 0, 1000}, {2, -1, 5}, {2, 12, 5}, {2, 0, 100},
            {3, 12, 5}, {3, 0, -1}, {4, 12, 5}, {4, 0, 1000}, {5, 4, 5}, {5, 0, 10}, {6, 4, 5}, {6, 0, 12}, {7, 4, 1},
            {7, 0, 2},
        };
        for (int[] w : wrong) {
            Twin.keeps("set(" + w[0] + ", " + w[1] + ", " + w[2] + ")", x -> x.set(w[0], w[1], w[2]), BAD);
        }
    }
}
