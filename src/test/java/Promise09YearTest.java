/** Promise 9: year; what a YEAR is. */
public final class Promise09YearTest {
    private static final int STATE = -3;

    public static void main(String[] args) {
        byTheRule();
        howManyAreDry();
        rainOnAll();
        rainBound();
        flowIfMore();
        flowHalf();
        flowNoMoreThanThereIs();
        flowBound();
        flowFromTheLast();
        flowHeld();
        flowHeldByMany();
        riverIfMore();
        riverNoMoreThanThereIs();
        riverIfLess();
        riverBehindFlow();
        riverHeld();
        drawsByKinds();
        drawsOfThoseThatGo();
        drawsBesides();
        drawsAtTheEnds();
        drawsByNumbers();
        drawsOneBehindTheOther();
        drawsNoMoreThanThereIs();
        drawsInTheYear();
        paid();
        paidByThoseThatGo();
        paidBehindDrawing();
        shrinksIfDry();
        shrinksByPeat();
        shrinksByHeight();
        shrinksOfWorks();
        shrinksBehindDrawing();
        oneMore();
        lastYear();
        keeps();
        Due.end();
    }

    private static void byTheRule() {
        Due.sentence("A YEAR, truly: how many are DRY.");
        DrainedForAThird x = new DrainedForAThird();
        Due.is("year()", x.year(), 0);
        // 5 and 6 of rain, and of 51 - 35 above the river half is gone.
        Due.waters("THE RULE", x, 3, 11, 11, 11, 11, 11, 11, 11, 11, 11, 11, 11);
        Due.is("year() again", x.year(), 0);
        // Now 17 on cell 1 and 9 on cell 0, so 4 flow; cell 0 stands 18 above the river.
        Due.waters("THE RULE again", x, 4, 13, 17, 17, 17, 17, 17, 17, 17, 17, 17, 17);
        Due.is("PAID", x.count(4), 0);
        Due.is("TEXTS", x.count(5), 1);
    }

    private static void howManyAreDry() {
        Due.sentence("A YEAR, truly: how many are DRY.");
        for (int wet = 0; wet <= 12; wet++) {
            DrainedForAThird x = Due.level(0, 50);
            for (int c = 0; c < wet; c++) {
                x.set(2, 11 - c, 49);
                x.set(4, 11 - c, 1);
            }
            Due.is("year() of " + wet + " wet ones", x.year(), 12 - wet);
            Due.is("count(2)", x.count(2), 12 - wet);
        }
    }

    private static void rainOnAll() {
        Due.sentence("first rain falls on all CELLS (each told as it is ahead of its own)");
        DrainedForAThird x = Due.ruled("rains 10*(cell=5)+water*(cell=2)+year+20*number;shrinks 0;calls 0;");
        // No cell comes to stand higher than the one ahead of it, nor the first than the river: all stays where it falls.
        Due.row(x, 2, 95, 90, 70, 60, 55, 40, 40, 38, 10, 5, 4, 3);
        Due.row(x, 4, 0, 0, 7, 0, 0, 0, 0, 0, 0, 0, 0, 0);
        x.set(0, 0, 99);
        x.set(1, 0, 4);
        x.work(5, 0, 8);
        x.set(7, 0, 0);
        x.year();
        Due.waters("rain", x, 4, 4, 18, 4, 4, 14, 4, 4, 24, 4, 4, 4);
        DrainedForAThird y = Due.ruled("rains 99;shrinks 0;calls 0;");
        Due.all(y, 4, 0);
        Due.all(y, 2, 0);
        y.set(0, 0, 99);
        y.year();
        Due.waters("99 of rain", y, 99, 99, 99, 99, 99, 99, 99, 99, 99, 99, 99, 99);
        DrainedForAThird z = Due.ruled("rains -5;shrinks 0;calls 0;");
        Due.all(z, 2, 35 - 5);
        Due.is("rain below 0 takes nothing", z.year(), 0);
        Due.waters("rain below 0", z, 5, 5, 5, 5, 5, 5, 5, 5, 5, 5, 5, 5);
    }

    private static void rainBound() {
        Due.sentence("first rain falls on all CELLS (WATER 999 at most)");
        DrainedForAThird y = Due.ruled("rains 50;shrinks 0;calls 0;");
        Due.all(y, 2, 0);
        Due.all(y, 4, 990);
        y.set(4, 11, 949);
        y.set(4, 10, 950);
        y.set(4, 9, 948);
        y.set(2, 8, 0);
        y.set(0, 0, 99);
        y.year();
        // 998 on cell 9, 1 less than on cell 10; of 999 on cell 0, 900 above the river, half is gone.
        Due.waters("rain, 999 at most", y, 549, 999, 999, 999, 999, 999, 999, 999, 999, 998, 999, 999);
    }

    /** WATER of cells 4 and 5 behind a YEAR in which nothing flows but from 5 to 4, and out of 0. */
    private static int[] flow(int height4, int water4, int height5, int water5) {
        DrainedForAThird x = Due.dryRuled();
        Due.all(x, 4, 0);
        Due.all(x, 2, 0);
        x.set(0, 0, 99);
        for (int c = 0; c < 4; c++) {
            x.set(2, c, 99);
            x.set(4, c, 999);
        }
        x.set(2, 4, height4);
        x.set(4, 4, water4);
        x.set(2, 5, height5);
        x.set(4, 5, water5);
        Due.is("nothing flows on", x.run(1, 303), 999);
        x.year();
        return new int[] {x.told(4, 4), x.told(5, 4)};
    }

    private static void flows(String when, int[] got, int due4, int due5) {
        Due.is(when + ": WATER of 4", got[0], due4);
        Due.is(when + ": WATER of 5", got[1], due5);
    }

    private static void flowIfMore() {
        Due.sentence("if HEIGHT and WATER of it are more than those of the one next to it, nearer to the river");
        flows("lower", flow(60, 10, 50, 10), 10, 10);
        flows("alike", flow(50, 10, 50, 10), 10, 10);
        flows("alike by both", flow(40, 20, 50, 10), 20, 10);
        flows("more by 2", flow(50, 10, 52, 10), 11, 9);
        flows("more by HEIGHT, but not by both", flow(40, 30, 60, 5), 30, 5);
        flows("more by WATER, but not by both", flow(60, 5, 40, 20), 5, 20);
        flows("more, but dry", flow(50, 10, 90, 0), 10, 0);
    }

    private static void flowHalf() {
        Due.sentence("half (cut) of the difference flows there");
        flows("1 more", flow(50, 10, 50, 11), 10, 11);
        flows("2 more", flow(50, 10, 50, 12), 11, 11);
        flows("3 more", flow(50, 10, 50, 13), 11, 12);
        flows("9 more", flow(50, 0, 50, 9), 4, 5);
    }

    private static void flowNoMoreThanThereIs() {
        Due.sentence("half (cut) of the difference, no more than its WATER");
        flows("as much as there is", flow(40, 0, 50, 10), 10, 0);
        flows("1 less than there is", flow(40, 0, 48, 10), 9, 1);
        flows("more than there is", flow(40, 0, 60, 10), 10, 0);
        flows("far more than there is", flow(0, 3, 99, 1), 4, 0);
    }

    private static void flowBound() {
        Due.sentence("no more than its WATER, flows there (999 at most)");
        flows("up to 999", flow(0, 949, 50, 999), 999, 949);
        flows("999 at most", flow(0, 950, 99, 999), 999, 925);
        flows("full", flow(0, 999, 10, 999), 999, 994);
    }

    private static void flowFromTheLast() {
        Due.sentence("Then FLOW, CELL by CELL from 11 to 1");
        DrainedForAThird x = Due.dryRuled();
        x.set(0, 0, 99);
        Due.all(x, 4, 0);
        Due.all(x, 2, 50);
        x.set(2, 0, 99);
        x.set(4, 11, 101);
        // From 11 to 1 in one year: half of what stands higher goes on and on.
        Due.is("flow", x.year(), 5);
        Due.waters("flow", x, 0, 0, 0, 0, 0, 1, 2, 3, 6, 13, 25, 51);
        DrainedForAThird y = Due.dryRuled();
        Due.all(y, 4, 0);
        y.set(4, 1, 20);
        y.set(0, 0, 50);
        y.year();
        Due.waters("from 1 to 0, which is as high as the river then", y, 10, 10, 0);
    }

    private static DrainedForAThird dammed(int kind) {
        DrainedForAThird x = Due.dryRuled();
        x.set(0, 0, 99);
        Due.all(x, 2, 50);
        Due.all(x, 4, 0);
        x.set(2, 0, 99);
        x.set(4, 5, 100);
        x.work(kind, 0, 4);
        return x;
    }

    private static void flowHeld() {
        Due.sentence("and no WORK that goes and HOLDS stands there");
        DrainedForAThird x = dammed(5);
        Due.is("a BANK holds: WATER of 5", x.run(1, 305), 100);
        Due.is("a BANK holds: WATER of 4", x.run(1, 304), 0);
        x.set(7, 0, 0);
        Due.is("a BANK that does not go: WATER of 5", x.run(1, 305), 50);
        Due.is("a BANK that does not go: WATER of 4", x.run(1, 304), 25);
        x.set(7, 0, 1);
        x.set(6, 0, 5);
        Due.is("a BANK on the cell above: WATER of 5", x.run(1, 305), 50);
        x.set(6, 0, 3);
        Due.is("a BANK on the cell below: WATER of 5", x.run(1, 305), 50);
        Due.is("a BANK on the cell below: WATER of 4", x.run(1, 304), 50);
        x.work(0, 0, 4);
        x.work(5, 3, 4);
        Due.is("one of three holds: WATER of 5", x.run(1, 305), 100);
        for (int kind = 0; kind < 5; kind++) {
            // A TALL draws 10 of the 50 that are left.
            Due.is("KIND " + kind + " does not hold: WATER of 5", dammed(kind).run(1, 305), kind == 4 ? 40 : 50);
        }
    }

    private static void flowHeldByMany() {
        Due.sentence("and no WORK that goes and HOLDS stands there");
        DrainedForAThird x = dammed(5);
        x.set(4, 9, 100);
        x.work(5, 0, 8);
        x.work(5, 0, 11);
        x.year();
        Due.waters("three BANKS, each on its CELL", x, 0, 0, 0, 0, 0, 100, 0, 0, 0, 100, 0, 0);
    }

    /** WATER of cell 0 behind a YEAR. */
    private static int beside(int river, int height, int water) {
        DrainedForAThird x = Due.dryRuled();
        Due.all(x, 4, 0);
        Due.all(x, 2, 0);
        x.set(0, 0, river);
        x.set(2, 0, height);
        x.set(4, 0, water);
        x.year();
        return x.told(0, 4);
    }

    private static void riverIfMore() {
        Due.sentence("Then CELL 0: if HEIGHT and WATER are more than RIVER, half (cut) of the difference is gone");
        Due.is("as high as the river", beside(35, 30, 5), 5);
        Due.is("1 above", beside(35, 30, 6), 6);
        Due.is("2 above", beside(35, 30, 7), 6);
        Due.is("3 above", beside(35, 30, 8), 7);
        Due.is("25 above", beside(35, 40, 20), 8);
        Due.is("a river of 0", beside(0, 0, 999), 500);
    }

    private static void riverNoMoreThanThereIs() {
        Due.sentence("half (cut) of the difference, no more than its WATER, is gone");
        Due.is("as much as there is", beside(10, 30, 20), 0);
        Due.is("1 less than there is", beside(10, 28, 20), 1);
        Due.is("more than there is", beside(10, 60, 20), 0);
        Due.is("above, but dry", beside(10, 60, 0), 0);
    }

    private static void riverIfLess() {
        Due.sentence("if they are less, half (cut) of the difference comes onto it (999 at most)");
        Due.is("1 below", beside(35, 30, 4), 4);
        Due.is("2 below", beside(35, 30, 3), 4);
        Due.is("3 below", beside(35, 30, 2), 3);
        Due.is("93 below", beside(99, 1, 5), 51);
        Due.is("99 below, dry", beside(99, 0, 0), 49);
        Due.is("1 below, dry", beside(35, 34, 0), 0);
    }

    private static void riverBehindFlow() {
        Due.sentence("Then CELL 0");
        DrainedForAThird x = Due.dryRuled();
        x.set(0, 0, 0);
        Due.all(x, 4, 0);
        Due.all(x, 2, 0);
        x.set(4, 1, 10);
        x.year();
        Due.waters("flow, then the river", x, 3, 5, 0);
        DrainedForAThird y = Due.dryRuled();
        y.set(0, 0, 40);
        Due.all(y, 4, 0);
        Due.all(y, 2, 0);
        y.set(4, 1, 40);
        y.year();
        // 20 flow, then 10 of the 20 that are missing come.
        Due.waters("flow, then out of the river", y, 30, 20, 0);
    }

    private static void riverHeld() {
        Due.sentence("if they are less, and no WORK that goes and HOLDS stands there");
        DrainedForAThird x = Due.dryRuled();
        Due.all(x, 4, 0);
        Due.all(x, 2, 0);
        x.set(0, 0, 50);
        x.work(5, 1, 0);
        Due.is("a BANK holds the river back", x.run(1, 300), 0);
        x.set(7, 0, 0);
        Due.is("a BANK that does not go", x.run(1, 300), 25);
        x.set(7, 0, 1);
        x.set(6, 0, 1);
        Due.is("a BANK elsewhere", x.run(1, 300), 25);
        x.set(6, 0, 0);
        x.set(4, 0, 80);
        Due.is("a BANK does not hold what goes to the river", x.run(1, 300), 65);
        x.set(4, 1, 120);
        x.set(0, 0, 99);
        Due.is("a BANK holds what comes from above", x.run(1, 301), 120);
        for (int kind = 0; kind < 5; kind++) {
            DrainedForAThird y = Due.dryRuled();
            Due.all(y, 4, 0);
            Due.all(y, 2, 0);
            y.set(0, 0, 90);
            y.work(kind, 0, 0);
            Due.is("KIND " + kind + " does not hold the river", y.run(1, 300), kind == 2 ? 40 : kind == 4 ? 35 : 45);
        }
    }

    private static void drawsByKinds() {
        Due.sentence("WATER is less by what it DRAWS");
        int[] low = {56, 56, 51, 56, 42, 60};
        int[] high = {56, 26, 51, 26, 42, 60};
        for (int kind = 0; kind < 6; kind++) {
            DrainedForAThird x = Due.level(60, 30);
            x.work(kind, 4, 6);
            x.year();
            Due.is("KIND " + kind + ", the land below the river", x.told(6, 4), low[kind]);
            DrainedForAThird y = Due.level(60, 30);
            y.set(2, 0, 99);
            y.set(4, 0, 0);
            y.set(0, 0, 29);
            y.work(kind, 4, 6);
            y.year();
            Due.is("KIND " + kind + ", the land above the river", y.told(6, 4), high[kind]);
        }
        DrainedForAThird z = Due.level(5, 30);
        z.work(2, 0, 7);
        Due.is("DRY behind what draws all", z.year(), 1);
    }

    private static void drawsOfThoseThatGo() {
        Due.sentence("Then each WORK that goes");
        for (int kind = 0; kind < 6; kind++) {
            DrainedForAThird x = Due.level(60, 30);
            x.work(kind, 4, 6);
            x.set(7, 0, 0);
            x.year();
            Due.waters("KIND " + kind + " that does not go", x, 60, 60, 60, 60, 60, 60, 60, 60, 60, 60, 60, 60);
        }
    }

    private static void drawsBesides() {
        Due.sentence("SPREADS (on both CELLS beside its own, too): CUT: yes; TALL: yes; others: no");
        for (int kind = 0; kind < 6; kind++) {
            DrainedForAThird x = Due.level(60, 30);
            x.work(kind, 4, 6);
            x.year();
            int own = 60 - x.told(6, 4);
            int besides = kind == 1 || kind == 4 ? own : 0;
            Due.is("KIND " + kind + " below", x.told(5, 4), 60 - besides);
            Due.is("KIND " + kind + " above", x.told(7, 4), 60 - besides);
            Due.is("KIND " + kind + " farther below", x.told(4, 4), 60);
            Due.is("KIND " + kind + " farther above", x.told(8, 4), 60);
        }
        DrainedForAThird z = Due.dryRuled();
        z.set(0, 0, 35);
        Due.row(z, 2, 40, 40, 40, 30, 35, 38, 34, 60, 60, 60, 60, 60);
        Due.row(z, 4, 0, 0, 6, 16, 11, 9, 0, 0, 0, 0, 0, 0);
        z.work(1, 2, 4);
        // Each by its own water and land: half of the water only where the land is above the river.
        z.year();
        Due.waters("a CUT besides", z, 0, 2, 3, 14, 9, 3);
    }

    private static void drawsAtTheEnds() {
        Due.sentence("the one below, the one above (if it SPREADS, and there is such a one)");
        int[] kinds = {1, 4};
        for (int kind : kinds) {
            int left = kind == 1 ? 56 : 42;
            DrainedForAThird x = Due.level(60, 30);
            x.work(kind, 4, 0);
            x.year();
            Due.waters("KIND " + kind + " on 0", x, left, left, 60, 60, 60, 60, 60, 60, 60, 60, 60, 60);
            DrainedForAThird y = Due.level(60, 30);
            y.work(kind, 4, 11);
            y.year();
            Due.waters("KIND " + kind + " on 11", y, 60, 60, 60, 60, 60, 60, 60, 60, 60, 60, left, left);
            DrainedForAThird z = Due.level(60, 30);
            z.work(kind, 4, 1);
            z.year();
            Due.waters("KIND " + kind + " on 1", z, left, left, left, 60, 60, 60, 60, 60, 60, 60, 60, 60);
        }
    }

    private static void drawsByNumbers() {
        Due.sentence("Then each WORK that goes, by numbers");
        DrainedForAThird x = Due.level(60, 30);
        x.set(0, 0, 29);
        x.work(0, 9, 8);
        x.work(1, 0, 8);
        // 60 less 9 is 51, and half of it (25) goes.
        Due.is("a WORK, then a CUT", x.run(1, 308), 26);
        DrainedForAThird y = Due.level(60, 30);
        y.set(0, 0, 29);
        y.work(1, 0, 8);
        y.work(0, 9, 8);
        Due.is("a CUT, then a WORK", y.run(1, 308), 21);
    }

    private static void drawsOneBehindTheOther() {
        Due.sentence("its own CELL, the one below (by number), the one above, one behind the other");
        DrainedForAThird z = Due.level(60, 30);
        z.set(0, 0, 29);
        z.work(1, 0, 8);
        z.work(1, 0, 7);
        // 60, 30 behind the first; half of that again on 8 and 7, where the first was besides.
        Due.is("two CUTS: WATER of 8", z.run(1, 308), 15);
        Due.is("two CUTS: WATER of 7", z.run(1, 307), 15);
        Due.is("two CUTS: WATER of 9", z.run(1, 309), 30);
        Due.is("two CUTS: WATER of 6", z.run(1, 306), 30);
    }

    private static void drawsNoMoreThanThereIs() {
        Due.sentence("(DRAWS no more than there is)");
        DrainedForAThird x = Due.falling();
        x.set(4, 5, 8);
        x.set(4, 6, 7);
        x.work(0, 8, 5);
        x.work(0, 8, 6);
        x.work(4, 9, 3);
        Due.is("all is drawn", x.year(), 12);
        Due.waters("none is less than 0", x, 0, 0, 0, 0, 0, 0, 0);
        DrainedForAThird y = Due.falling();
        y.set(4, 5, 8);
        y.work(0, 7, 5);
        Due.is("1 is left", y.year(), 11);
        Due.is("WATER", y.told(5, 4), 1);
    }

    private static void drawsInTheYear() {
        Due.sentence("SLUICE: but 0, if THE YEAR modulo 3 is 2");
        DrainedForAThird x = Due.falling();
        x.set(2, 5, 0);
        x.set(4, 5, 50);
        x.work(3, 5, 5);
        int[] due = {45, 40, 40, 35, 30, 30, 25};
        for (int year = 0; year < due.length; year++) {
            x.year();
            Due.is("behind year " + year, x.told(5, 4), due[year]);
        }
    }

    private static void paid() {
        Due.sentence("PAID is what it COSTS more");
        DrainedForAThird x = Due.ruled("rains 0;shrinks 0;calls 10+number;");
        for (int kind = 0; kind < 6; kind++) {
            x.work(kind, kind, kind);
        }
        // 10, 5, 24, 6 + 3, 28 + 4, 15.
        x.year();
        Due.is("PAID", x.count(4), 95);
        x.year();
        Due.is("PAID in two", x.count(4), 190);
    }

    private static void paidByThoseThatGo() {
        Due.sentence("Then each WORK that goes: PAID is what it COSTS more");
        DrainedForAThird x = Due.ruled("rains 0;shrinks 0;calls 10+number;");
        for (int kind = 0; kind < 6; kind++) {
            x.work(kind, kind, kind);
        }
        x.set(7, 4, 0);
        x.year();
        Due.is("one does not go", x.count(4), 63);
        for (int w = 0; w < 6; w++) {
            x.set(7, w, 0);
        }
        x.year();
        Due.is("none goes", x.count(4), 63);
        DrainedForAThird y = new DrainedForAThird();
        y.year();
        Due.is("there is none", y.count(4), 0);
    }

    private static void paidBehindDrawing() {
        Due.sentence("WATER is less by what it DRAWS; PAID is what it COSTS more");
        DrainedForAThird y = Due.ruled("rains 0;shrinks 0;calls water;");
        Due.all(y, 2, 30);
        y.set(0, 0, 90);
        Due.all(y, 4, 60);
        y.work(0, 9, 6);
        y.work(0, 9, 6);
        y.year();
        // 51 and 42 are on it then.
        Due.is("PAID by WATER", y.count(4), 93);
    }

    private static void shrinksIfDry() {
        Due.sentence("Then each CELL that is DRY, by numbers: shrinks");
        DrainedForAThird x = Due.ruled("rains 0;shrinks 3;calls 0;");
        Due.all(x, 4, 0);
        Due.all(x, 2, 50);
        x.set(0, 0, 50);
        x.set(2, 7, 49);
        x.set(4, 7, 1);
        x.year();
        for (int c = 0; c < 12; c++) {
            Due.is("HEIGHT of " + c, x.told(c, 2), c == 7 ? 49 : 47);
            Due.is("PEAT of " + c, x.told(c, 3), c == 7 ? 20 : 17);
        }
        DrainedForAThird y = Due.ruled("rains 0;shrinks 3+cell+year+number;calls 0;");
        Due.all(y, 4, 0);
        Due.all(y, 2, 60);
        y.set(0, 0, 60);
        y.work(5, 0, 4);
        y.set(1, 0, 2);
        y.year();
        Due.is("by CELL and THE YEAR, HEIGHT of 3", y.told(3, 2), 52);
        Due.is("and by WORKS, HEIGHT of 4", y.told(4, 2), 50);
        Due.is("HEIGHT of 11", y.told(11, 2), 44);
    }

    private static DrainedForAThird shrunk(int shrinks, int peat, int height) {
        DrainedForAThird x = Due.ruled("rains 0;shrinks " + shrinks + ";calls 0;");
        Due.all(x, 4, 0);
        Due.all(x, 2, 0);
        x.set(0, 0, 0);
        x.set(2, 11, height);
        x.set(3, 11, peat);
        x.year();
        return x;
    }

    private static void shrinksByPeat() {
        Due.sentence("shrinks, no more than its PEAT: both are so much less");
        int[] peats = {0, 1, 6, 7, 8, 99};
        for (int peat : peats) {
            DrainedForAThird x = shrunk(7, peat, 90);
            int less = Math.min(7, peat);
            Due.is("PEAT of " + peat, x.told(11, 3), peat - less);
            Due.is("HEIGHT by PEAT of " + peat, x.told(11, 2), 90 - less);
        }
    }

    private static void shrinksByHeight() {
        Due.sentence("shrinks, no more than its HEIGHT: both are so much less");
        int[] heights = {0, 1, 6, 7, 8, 99};
        for (int height : heights) {
            DrainedForAThird x = shrunk(7, 90, height);
            int less = Math.min(7, height);
            Due.is("HEIGHT of " + height, x.told(11, 2), height - less);
            Due.is("PEAT by HEIGHT of " + height, x.told(11, 3), 90 - less);
        }
        Due.is("both bound: HEIGHT", shrunk(20, 5, 3).told(11, 2), 0);
        Due.is("both bound: PEAT", shrunk(20, 5, 3).told(11, 3), 2);
    }

    private static void shrinksOfWorks() {
        Due.sentence("shrinks: how much HEIGHT and PEAT are less (0 .. 20, else the bound)");
        Due.is("20", shrunk(20, 90, 90).told(11, 2), 70);
        Due.is("21", shrunk(21, 90, 90).told(11, 2), 70);
        Due.is("99", shrunk(99, 90, 90).told(11, 3), 70);
        Due.is("0", shrunk(0, 90, 90).told(11, 3), 90);
        Due.is("below 0", shrunk(-3, 90, 90).told(11, 2), 90);
        Due.is("below 0: PEAT", shrunk(-3, 90, 90).told(11, 3), 90);
    }

    private static void shrinksBehindDrawing() {
        Due.sentence("Then each CELL that is DRY");
        DrainedForAThird x = Due.ruled("rains 0;shrinks 3;calls 0;");
        Due.all(x, 4, 5);
        Due.all(x, 2, 30);
        x.work(0, 5, 7);
        x.work(0, 4, 8);
        x.year();
        Due.is("drawn off in this year", x.told(7, 2), 27);
        Due.is("1 is left", x.told(8, 2), 30);
    }

    private static void oneMore() {
        Due.sentence("THE YEAR is 1 more.");
        DrainedForAThird x = Due.ruled("rains 1+year;shrinks 0;calls year;");
        x.work(0, 0, 0);
        Due.all(x, 4, 0);
        Due.all(x, 2, 0);
        x.set(0, 0, 99);
        x.set(1, 0, 7);
        x.year();
        Due.is("THE YEAR", x.count(3), 8);
        Due.is("rain by THE YEAR as it was", x.told(5, 4), 8);
        Due.is("PAID by THE YEAR as it was", x.count(4), 7);
    }

    private static void lastYear() {
        Due.sentence("STATE: THE YEAR is 999.");
        DrainedForAThird x = new DrainedForAThird();
        x.set(1, 0, 998);
        Due.is("year 998", x.year(), 0);
        Due.is("THE YEAR", x.count(3), 999);
        int water = x.told(4, 4);
        Due.is("year 999", x.year(), STATE);
        Due.is("year 999 again", x.year(), STATE);
        Due.is("THE YEAR still", x.count(3), 999);
        Due.is("WATER still", x.told(4, 4), water);
        x.set(1, 0, 998);
        Due.is("set back", x.year(), 0);
    }

    private static DrainedForAThird atTheEnd() {
        DrainedForAThird x = Twin.full();
        x.set(1, 0, 999);
        return x;
    }

    private static void keeps() {
        Due.sentence("Refusals change nothing");
        Twin.keeps("year() in 999", Promise09YearTest::atTheEnd, DrainedForAThird::year, STATE);
    }
}
