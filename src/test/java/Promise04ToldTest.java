/** Promise 4: told. */
public final class Promise04ToldTest {
    private static final int BAD = -2;
    private static final int LOWEST = Integer.MIN_VALUE;
    private static final int HIGHEST = Integer.MAX_VALUE;

    public static void main(String[] args) {
        toldAsOfSet();
        ofDoesNotMatter();
        kinds();
        whatBounds();
        noSuchCell();
        noSuchWork();
        drawsOfWork();
        drawsOfCut();
        drawsOfMill();
        drawsOfSluice();
        drawsOfTall();
        drawsOfBank();
        drawsNoMoreThanThereIs();
        drawsOfItsOwn();
        drawsThoughNotGoing();
        costsByKinds();
        costsCutTowardZero();
        costsWithinBounds();
        costsOfNumber();
        keeps();
        Due.end();
    }

    private static void toldAsOfSet() {
        Due.sentence("What 0 .. 7 as of set()");
        DrainedForAThird x = new DrainedForAThird();
        x.work(3, 7, 9);
        int[] due = {35, 0, 40, 20, 5, 7, 9, 1};
        for (int what = 0; what <= 7; what++) {
            Due.is("told(0, " + what + ")", x.told(0, what), due[what]);
            Due.is("set(" + what + ", 0, 0)", x.set(what, 0, 0), due[what]);
            Due.is("told(0, " + what + ") of 0", x.told(0, what), 0);
        }
    }

    private static void ofDoesNotMatter() {
        Due.sentence("RIVER (what 0; of does not matter), THE YEAR (1; nor)");
        DrainedForAThird x = new DrainedForAThird();
        x.set(1, 0, 8);
        int[] anywhere = {LOWEST, -1, 12, HIGHEST};
        for (int of : anywhere) {
            Due.is("told(" + of + ", 0)", x.told(of, 0), 35);
            Due.is("told(" + of + ", 1)", x.told(of, 1), 8);
        }
    }

    private static void kinds() {
        Due.sentence("8 KIND");
        DrainedForAThird x = new DrainedForAThird();
        for (int kind = 5; kind >= 0; kind--) {
            x.work(kind, 1, 1);
            Due.is("KIND", x.told(5 - kind, 8), kind);
        }
    }

    private static void whatBounds() {
        Due.sentence("What 0 .. 7, 8, 9, 10. BAD.");
        DrainedForAThird x = new DrainedForAThird();
        x.work(0, 3, 5);
        int[] wrong = {-1, 11, 12, 100, LOWEST, HIGHEST};
        for (int what : wrong) {
            Due.is("told(0, " + what + ")", x.told(0, what), BAD);
        }
        Due.is("told(0, 10)", x.told(0, 10), 3);
    }

    private static void noSuchCell() {
        Due.sentence("HEIGHT (2), PEAT (3), WATER (4) of a CELL. BAD.");
        DrainedForAThird x = new DrainedForAThird();
        for (int what = 2; what <= 4; what++) {
            Due.is("told(-1, " + what + ")", x.told(-1, what), BAD);
            Due.is("told(12, " + what + ")", x.told(12, what), BAD);
            Due.is("told(lowest, " + what + ")", x.told(LOWEST, what), BAD);
            Due.is("told(highest, " + what + ")", x.told(HIGHEST, what), BAD);
            Due.holds("told(11, " + what + ") is told", x.told(11, what) > 0);
        }
    }

    private static void noSuchWork() {
        Due.sentence("NUMBER (5) .. COSTS of a WORK. BAD.");
        DrainedForAThird x = new DrainedForAThird();
        for (int works = 0; works <= 6; works++) {
            for (int what = 5; what <= 10; what++) {
                String of = "of " + works + " told(";
                Due.is(of + "-1, " + what + ")", x.told(-1, what), BAD);
                Due.is(of + works + ", " + what + ")", x.told(works, what), BAD);
                Due.is(of + "highest, " + what + ")", x.told(HIGHEST, what), BAD);
                Due.holds(of + "the last, " + what + ") is told", works == 0 || x.told(works - 1, what) >= 0);
            }
            x.work(0, 0, 0);
        }
    }

    private static int draws(int kind, int number, int water, int height, int year) {
        DrainedForAThird x = new DrainedForAThird();
        x.work(kind, number, 6);
        x.set(4, 6, water);
        x.set(2, 6, height);
        x.set(1, 0, year);
        return x.told(0, 9);
    }

    private static void drawsOfWork() {
        Due.sentence("DRAWS: WORK: NUMBER");
        Due.is("of 7", draws(0, 7, 100, 50, 0), 7);
        Due.is("of 9", draws(0, 9, 100, 20, 2), 9);
        Due.is("of 0", draws(0, 0, 100, 50, 0), 0);
    }

    private static void drawsOfCut() {
        Due.sentence("CUT: half (cut) of w more than a WORK, if h is above RIVER, else as a WORK");
        Due.is("above RIVER by 1", draws(1, 7, 100, 36, 0), 57);
        Due.is("of 101, half is cut", draws(1, 7, 101, 36, 0), 57);
        Due.is("of 1, half is none", draws(1, 0, 1, 36, 0), 0);
        Due.is("as high as RIVER", draws(1, 7, 101, 35, 0), 7);
        Due.is("below RIVER by 1", draws(1, 7, 101, 34, 0), 7);
        Due.is("by the land, not by what stands on it", draws(1, 7, 999, 0, 0), 7);
        Due.is("in year 2", draws(1, 7, 101, 36, 2), 57);
    }

    private static void drawsOfMill() {
        Due.sentence("MILL: 5 more than a WORK");
        Due.is("of 7", draws(2, 7, 100, 50, 0), 12);
        Due.is("of 0", draws(2, 0, 100, 50, 0), 5);
        Due.is("below RIVER", draws(2, 7, 100, 0, 2), 12);
    }

    private static void drawsOfSluice() {
        Due.sentence("SLUICE: as a CUT, but 0, if THE YEAR modulo 3 is 2");
        int[] due = {57, 57, 0, 57, 57, 0};
        for (int year = 0; year < due.length; year++) {
            Due.is("in year " + year, draws(3, 7, 101, 36, year), due[year]);
        }
        Due.is("in year 997", draws(3, 7, 101, 36, 997), 57);
        Due.is("in year 998", draws(3, 7, 101, 36, 998), 0);
        Due.is("in year 999", draws(3, 7, 101, 36, 999), 57);
        Due.is("as high as RIVER", draws(3, 7, 101, 35, 1), 7);
        Due.is("as high as RIVER, in year 2", draws(3, 7, 101, 35, 2), 0);
    }

    private static void drawsOfTall() {
        Due.sentence("TALL: twice a MILL's");
        Due.is("of 7", draws(4, 7, 100, 50, 0), 24);
        Due.is("of 0", draws(4, 0, 100, 50, 0), 10);
        Due.is("of 9, in year 2", draws(4, 9, 100, 0, 2), 28);
    }

    private static void drawsOfBank() {
        Due.sentence("BANK: 0");
        Due.is("of 9", draws(5, 9, 100, 50, 0), 0);
        Due.is("of 9, full", draws(5, 9, 999, 0, 0), 0);
    }

    private static void drawsNoMoreThanThereIs() {
        Due.sentence("(DRAWS no more than there is)");
        int[] most = {7, 0, 12, 0, 24};
        for (int kind = 0; kind < 5; kind++) {
            Due.is("KIND " + kind + ", no water", draws(kind, 7, 0, 50, 0), 0);
            Due.is("KIND " + kind + ", 1", draws(kind, 7, 1, 50, 0), 1);
            if (most[kind] > 0) {
                Due.is("KIND " + kind + ", one less than it would", draws(kind, 7, most[kind] - 1, 50, 0), most[kind] - 1);
                Due.is("KIND " + kind + ", as much as it would", draws(kind, 7, most[kind], 50, 0), most[kind]);
                Due.is("KIND " + kind + ", one more than it would", draws(kind, 7, most[kind] + 1, 50, 0), most[kind]);
            }
        }
        // 7 and half of it.
        Due.is("CUT, 13", draws(1, 7, 13, 50, 0), 13);
        Due.is("CUT, 14", draws(1, 7, 14, 50, 0), 14);
        Due.is("CUT, 15", draws(1, 7, 15, 50, 0), 14);
        Due.is("SLUICE, 13", draws(3, 7, 13, 50, 0), 13);
        Due.is("SLUICE, 15", draws(3, 7, 15, 50, 0), 14);
    }

    private static void drawsOfItsOwn() {
        Due.sentence("9 what it DRAWS of its own CELL now");
        DrainedForAThird x = new DrainedForAThird();
        x.work(1, 1, 0);
        x.work(1, 1, 11);
        Due.all(x, 4, 40);
        x.set(4, 0, 10);
        x.set(4, 11, 20);
        Due.is("on CELL 0", x.told(0, 9), 6);
        Due.is("on CELL 11", x.told(1, 9), 11);
        x.set(6, 0, 5);
        Due.is("on CELL 5, where it stands now", x.told(0, 9), 21);
        x.set(0, 0, 40);
        Due.is("by RIVER now", x.told(0, 9), 1);
        x.set(5, 0, 4);
        Due.is("by NUMBER now", x.told(0, 9), 4);
        Due.is("WATER stays", x.told(5, 4), 40);
    }

    private static void drawsThoughNotGoing() {
        Due.sentence("9 what it DRAWS of its own CELL now, 10 COSTS of a WORK");
        DrainedForAThird x = new DrainedForAThird();
        x.work(2, 1, 3);
        x.set(7, 0, 0);
        x.set(4, 3, 50);
        Due.is("DRAWS of one that does not go", x.told(0, 9), 6);
        Due.is("COSTS of one that does not go", x.told(0, 10), 6);
    }

    private static int[] costs(String calls, int number) {
        DrainedForAThird x = Due.ruled("rains 0;shrinks 0;calls " + calls + ";");
        int[] costs = new int[6];
        for (int kind = 0; kind < 6; kind++) {
            x.work(kind, number, 2);
            costs[kind] = x.told(kind, 10);
        }
        return costs;
    }

    private static void costsAre(String calls, int number, int... due) {
        int[] costs = costs(calls, number);
        for (int kind = 0; kind < 6; kind++) {
            Due.is("calls " + calls + ", KIND " + kind + ", NUMBER " + number, costs[kind], due[kind]);
        }
    }

    private static void costsByKinds() {
        Due.sentence("COSTS (calls telling v): WORK: v; CUT: half; MILL: twice; SLUICE, TALL: NUMBER more; BANK: v");
        costsAre("8", 4, 8, 4, 16, 8, 20, 8);
        costsAre("8", 0, 8, 4, 16, 4, 16, 8);
        costsAre("8", 9, 8, 4, 16, 13, 25, 8);
    }

    private static void costsCutTowardZero() {
        Due.sentence("CUT: half (cut) of a WORK's");
        costsAre("7", 4, 7, 3, 14, 7, 18, 7);
        costsAre("1", 3, 1, 0, 2, 3, 5, 1);
    }

    private static void costsWithinBounds() {
        Due.sentence("calls: of the CELL of a WORK (0 .. 99, else the bound); COSTS 0 at least, in the end");
        costsAre("99", 9, 99, 49, 198, 58, 207, 99);
        costsAre("100", 9, 99, 49, 198, 58, 207, 99);
        costsAre("9999", 9, 99, 49, 198, 58, 207, 99);
        costsAre("0", 9, 0, 0, 0, 9, 9, 0);
        costsAre("-1", 9, 0, 0, 0, 9, 9, 0);
        costsAre("-9999", 0, 0, 0, 0, 0, 0, 0);
    }

    private static void costsOfNumber() {
        Due.sentence("number: how many WORKS stand there (going or not), of calls NUMBER of the WORK");
        DrainedForAThird x = Due.ruled("rains 0;shrinks 0;calls 20*number+cell+water*(year=3);");
        x.work(0, 3, 9);
        x.work(0, 2, 9);
        x.work(0, 0, 9);
        x.work(0, 0, 11);
        Due.is("NUMBER 3, though three stand there", x.told(0, 10), 69);
        Due.is("NUMBER 2", x.told(1, 10), 49);
        Due.is("NUMBER 0", x.told(2, 10), 9);
        Due.is("on another CELL", x.told(3, 10), 11);
        x.set(1, 0, 3);
        Due.is("by WATER and THE YEAR now", x.told(1, 10), 54);
    }

    private static void keeps() {
        Due.sentence("Refusals change nothing");
        int[][] wrong = {{0, -1}, {0, 11}, {-1, 2}, {12, 2}, {12, 4}, {-1, 5}, {4, 5}, {4, 9}, {4, 10}};
        for (int[] w : wrong) {
            Twin.keeps("told(" + w[0] + ", " + w[1] + ")", x -> x.told(w[0], w[1]), BAD);
        }
        Twin.keeps("told(3, 8), no refusal", x -> x.told(3, 8), 5);
        Twin.keeps("told(1, 10), no refusal", x -> x.told(1, 10), 6);
    }
}
