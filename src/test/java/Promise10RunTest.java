/** Promise 10: run. */
public final class Promise10RunTest {
    private static final int NONE = -1;
    private static final int BAD = -2;
    private static final int LOWEST = Integer.MIN_VALUE;
    private static final int HIGHEST = Integer.MAX_VALUE;

    public static void main(String[] args) {
        inThought();
        dryAtLast();
        paidInThem();
        judged();
        dryThen();
        kept();
        shorterBehindLonger();
        ofCells();
        noYears();
        behindTheLastYear();
        yearsBounds();
        whatBounds();
        cellsBounds();
        keeps();
        Due.end();
    }

    private static void inThought() {
        Due.sentence("n YEARS (0 .. 30), in thought");
        DrainedForAThird x = new DrainedForAThird();
        x.work(4, 9, 5);
        int dry = x.run(7, 0);
        int paid = x.run(7, 1);
        int water = x.run(7, 303);
        Due.is("THE YEAR", x.count(3), 0);
        Due.is("PAID", x.count(4), 0);
        Due.is("WATER", x.told(3, 4), 5);
        for (int i = 0; i < 7; i++) {
            x.year();
        }
        Due.is("PAID truly", x.count(4), paid);
        Due.is("WATER truly", x.told(3, 4), water);
        Due.is("DRY truly", x.run(0, 0), dry);
        Due.is("how many", x.count(2), Integer.bitCount(dry));
    }

    private static void dryAtLast() {
        Due.sentence("DRY CELLS at last (what 0; bits)");
        DrainedForAThird x = Due.emptied();
        int wet = 4095 - Due.bit(5);
        int[] due = {wet, wet, wet, 4095, 4095};
        for (int n = 0; n < due.length; n++) {
            Due.is("run(" + n + ", 0)", x.run(n, 0), due[n]);
        }
        Due.is("run(30, 0)", x.run(30, 0), 4095);
        Due.is("none", new DrainedForAThird().run(30, 0), 0);
    }

    private static void paidInThem() {
        Due.sentence("PAID in them (1)");
        DrainedForAThird x = Due.ruled("rains 0;shrinks 0;calls 10+number;");
        for (int kind = 0; kind < 6; kind++) {
            x.work(kind, kind, kind);
        }
        Due.is("run(0, 1)", x.run(0, 1), 0);
        Due.is("run(1, 1)", x.run(1, 1), 95);
        Due.is("run(30, 1)", x.run(30, 1), 2850);
        x.year();
        Due.is("what was PAID ahead of them is none of it", x.run(3, 1), 285);
    }

    private static void judged() {
        Due.sentence("JUDGED: that of them behind which most are DRY, of like ones the first");
        DrainedForAThird z = Due.wetThenDry();
        int[] judged = {0, 0, 2, 2, 4, 4, 4, 4};
        for (int n = 1; n <= 8; n++) {
            Due.is("run(" + n + ", 2)", z.run(n, 2), judged[n - 1]);
        }
        Due.is("run(30, 2)", z.run(30, 2), 4);
        Due.is("none DRY behind any", new DrainedForAThird().run(5, 2), 0);
        DrainedForAThird y = new DrainedForAThird();
        Due.all(y, 4, 0);
        Due.is("all DRY ahead of them", y.run(5, 2), 0);
        Due.is("how many behind the first", y.run(5, 3), 0);
    }

    private static void dryThen() {
        Due.sentence("how many are DRY then (3)");
        DrainedForAThird z = Due.wetThenDry();
        int[] dry = {10, 10, 11, 11, 12, 12, 12, 12};
        int[] last = {10, 10, 11, 11, 12, 12, 11, 12};
        for (int n = 1; n <= 8; n++) {
            Due.is("run(" + n + ", 3)", z.run(n, 3), dry[n - 1]);
            Due.is("at last of " + n, Integer.bitCount(z.run(n, 0)), last[n - 1]);
        }
        Due.is("none DRY", new DrainedForAThird().run(5, 3), 0);
    }

    private static void kept() {
        Due.sentence("KEPT: how many of them end with no fewer DRY than any one ahead of it (the first does)");
        DrainedForAThird z = Due.wetThenDry();
        int[] kept = {1, 2, 3, 4, 5, 6, 6, 7};
        for (int n = 1; n <= 8; n++) {
            Due.is("run(" + n + ", 4)", z.run(n, 4), kept[n - 1]);
        }
        Due.is("none DRY behind any", new DrainedForAThird().run(5, 4), 5);
        DrainedForAThird y = new DrainedForAThird();
        Due.all(y, 4, 0);
        Due.is("all DRY ahead of the first", y.run(3, 4), 3);
    }

    private static void shorterBehindLonger() {
        Due.sentence("n YEARS, in thought: of these alone, JUDGED, how many are DRY then, KEPT");
        DrainedForAThird z = Due.wetThenDry();
        int[] judged = {NONE, 0, 0, 2, 2, 4, 4, 4, 4};
        int[] dry = {NONE, 10, 10, 11, 11, 12, 12, 12, 12};
        int[] kept = {0, 1, 2, 3, 4, 5, 6, 6, 7};
        for (int n = 8; n >= 0; n--) {
            Due.is("KEPT of 30", z.run(30, 4), 29);
            Due.is("JUDGED behind 30: run(" + n + ", 2)", z.run(n, 2), judged[n]);
            Due.is("DRY then behind 30: run(" + n + ", 3)", z.run(n, 3), dry[n]);
            Due.is("KEPT behind 30: run(" + n + ", 4)", z.run(n, 4), kept[n]);
        }
    }

    private static void ofCells() {
        Due.sentence("of CELL what modulo 100: HEIGHT (100 ..), PEAT (200 ..), WATER (300 ..) at last");
        DrainedForAThird x = new DrainedForAThird();
        for (int c = 0; c < 12; c++) {
            x.set(2, c, 50 - c);
            x.set(3, c, 20 - c);
            x.set(4, c, 3 * c);
        }
        for (int c = 0; c < 12; c++) {
            Due.is("HEIGHT of " + c, x.run(0, 100 + c), 50 - c);
            Due.is("PEAT of " + c, x.run(0, 200 + c), 20 - c);
            Due.is("WATER of " + c, x.run(0, 300 + c), 3 * c);
        }
        DrainedForAThird y = Due.ruled("rains 0;shrinks 2;calls 0;");
        Due.all(y, 4, 0);
        y.set(0, 0, 40);
        Due.is("HEIGHT at last of 3", y.run(3, 111), 34);
        Due.is("PEAT at last of 3", y.run(3, 211), 14);
        Due.is("HEIGHT at last of 30", y.run(30, 111), 20);
        Due.is("PEAT at last of 30", y.run(30, 211), 0);
        Due.is("WATER at last of 1", y.run(1, 300), 0);
        Due.is("WATER at last of 2", y.run(2, 300), 1);
    }

    private static void noYears() {
        Due.sentence("JUDGED (2; NONE: no YEARS), how many are DRY then (3; NONE)");
        DrainedForAThird x = new DrainedForAThird();
        x.set(4, 7, 0);
        x.set(4, 11, 0);
        x.work(0, 1, 1);
        Due.is("DRY at last", x.run(0, 0), Due.bit(7, 11));
        Due.is("PAID", x.run(0, 1), 0);
        Due.is("JUDGED", x.run(0, 2), NONE);
        Due.is("DRY then", x.run(0, 3), NONE);
        Due.is("KEPT", x.run(0, 4), 0);
        x.run(5, 0);
        Due.is("JUDGED behind other YEARS", x.run(0, 2), NONE);
        Due.is("DRY then behind other YEARS", x.run(0, 3), NONE);
        Due.is("JUDGED of one", x.run(1, 2), 0);
    }

    private static void behindTheLastYear() {
        Due.sentence("(there YEAR may pass 999)");
        DrainedForAThird x = Due.ruled("rains 0;shrinks 0;calls (998<year)+(999<year)*10+(1000<year)*50;");
        x.work(0, 0, 0);
        x.set(1, 0, 998);
        Due.is("PAID 998", x.run(1, 1), 0);
        Due.is("PAID 999", x.run(2, 1), 1);
        Due.is("PAID 1000", x.run(3, 1), 12);
        Due.is("PAID 1001", x.run(4, 1), 73);
        x.set(1, 0, 999);
        Due.is("PAID from 999", x.run(1, 1), 1);
        Due.is("PAID from 999 in 30", x.run(30, 1), 1 + 11 + 28 * 61);
        Due.is("THE YEAR", x.count(3), 999);
        DrainedForAThird y = Due.falling();
        y.set(2, 5, 0);
        y.set(4, 5, 50);
        y.work(3, 5, 5);
        y.set(1, 0, 999);
        // 1001 modulo 3 is 2.
        int[] due = {50, 45, 40, 40, 35, 30, 30};
        for (int n = 0; n < due.length; n++) {
            Due.is("WATER from 999 in " + n, y.run(n, 305), due[n]);
        }
    }

    private static void yearsBounds() {
        Due.sentence("n YEARS (0 .. 30). BAD.");
        DrainedForAThird x = new DrainedForAThird();
        int[] wrong = {-1, 31, 32, LOWEST, HIGHEST};
        int[] whats = {0, 1, 2, 3, 4, 100, 211, 305};
        for (int what : whats) {
            for (int n : wrong) {
                Due.is("run(" + n + ", " + what + ")", x.run(n, what), BAD);
            }
            Due.holds("run(0, " + what + ") is no refusal", x.run(0, what) != BAD);
            Due.holds("run(30, " + what + ") is no refusal", x.run(30, what) != BAD);
        }
        Due.is("run(30, 311)", x.run(30, 311), 180);
    }

    private static void whatBounds() {
        Due.sentence("(what 0 .. 4). BAD.");
        DrainedForAThird x = new DrainedForAThird();
        int[] wrong = {-1, 5, 9, 11, 12, 50, 99, 400, 401, 411, 500, 1100, 1311, -100, -200, -305, -400, LOWEST, HIGHEST};
        for (int what : wrong) {
            Due.is("run(0, " + what + ")", x.run(0, what), BAD);
            Due.is("run(3, " + what + ")", x.run(3, what), BAD);
        }
    }

    private static void cellsBounds() {
        Due.sentence("of CELL what modulo 100 (0 .. 11). BAD.");
        DrainedForAThird x = new DrainedForAThird();
        for (int kind = 100; kind <= 300; kind += 100) {
            Due.is("run(0, " + (kind + 12) + ")", x.run(0, kind + 12), BAD);
            Due.is("run(0, " + (kind + 13) + ")", x.run(0, kind + 13), BAD);
            Due.is("run(0, " + (kind + 99) + ")", x.run(0, kind + 99), BAD);
            Due.is("run(0, " + (kind - 1) + ")", x.run(0, kind - 1), BAD);
            Due.is("run(0, " + kind + ")", x.run(0, kind), kind == 100 ? 40 : kind == 200 ? 20 : 5);
            Due.is("run(0, " + (kind + 11) + ")", x.run(0, kind + 11), kind == 100 ? 40 : kind == 200 ? 20 : 5);
        }
    }

    private static void keeps() {
        Due.sentence("Refusals change nothing");
        Twin.keeps("run(-1, 0)", x -> x.run(-1, 0), BAD);
        Twin.keeps("run(31, 2)", x -> x.run(31, 2), BAD);
        Twin.keeps("run(5, 5)", x -> x.run(5, 5), BAD);
        Twin.keeps("run(5, 112)", x -> x.run(5, 112), BAD);
        Twin.keeps("run(0, 2), no YEARS", x -> x.run(0, 2), NONE);
        DrainedForAThird y = Twin.full();
        int dry = y.run(30, 0);
        Twin.keeps("run(30, 0), no refusal", x -> x.run(30, 0), dry);
    }
}
