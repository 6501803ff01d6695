/** Promise 23: sheet. */
public final class Promise23SheetTest {
    private static final int BAD = -2;
    private static final int NOTHING = -11;
    private static final int OUTSIDE = -12;
    private static final int UNLIKE = -13;
    private static final int BELOW = -14;
    private static final int LOWEST = Integer.MIN_VALUE;
    private static final int HIGHEST = Integer.MAX_VALUE;

    public static void main(String[] args) {
        ofEachSort();
        allZero();
        othersStay();
        missing();
        missingAnyN();
        ofNone();
        fortyAtMost();
        belowZero();
        noSuchSheet();
        noSuchSort();
        badAheadOfBelow();
        keeps();
        Due.end();
    }

    private static void ofEachSort() {
        Due.sentence("A SHEET becomes a row of n of a sort: 1 (of sort 0 bytes, 1 shorts, 2 ints)");
        DrainedForAThird x = new DrainedForAThird();
        for (int s = 0; s < 4; s++) {
            for (int sort = 0; sort < 3; sort++) {
                Due.is("sheet", x.sheet(s, sort, 7), 1);
                Due.is("its last item", x.cell(s, 6, 1), 1);
                Due.is("behind its last", x.cell(s, 7, 1), OUTSIDE);
                for (int other = 0; other < 3; other++) {
                    Due.is("taken for " + other, x.works(s, other, 0, 0), other == sort ? 0 : UNLIKE);
                }
            }
        }
    }

    private static void allZero() {
        Due.sentence("all 0");
        DrainedForAThird x = new DrainedForAThird();
        for (int sort = 0; sort < 3; sort++) {
            Due.sheet(x, 0, sort, 1, 2, 3, 4, 5, 6);
            x.sheet(0, sort, 6);
            Due.digits("again", x, 0, sort, 0, 0, 0, 0);
        }
        Due.sheet(x, 1, 2, 1, 2, 3, 4, 5, 6);
        x.sheet(1, -1, 0);
        x.sheet(1, 2, 6);
        Due.digits("behind missing", x, 1, 2, 0, 0, 0, 0);
        Due.sheet(x, 2, 2, 1, 2, 3, 4, 5, 6);
        x.sheet(2, 2, 2);
        x.sheet(2, 2, 6);
        Due.digits("behind a shorter one", x, 2, 2, 0, 0, 0, 0);
        Due.sheet(x, 3, 2, 5, 1, 1);
        x.sheet(3, 0, 3);
        Due.is("a WORK of zeros", x.works(3, 0, 0, 1), 1);
        Due.is("its KIND", x.told(0, 8), 0);
        Due.is("its CELL", x.told(0, 6), 0);
    }

    private static void othersStay() {
        Due.sentence("A SHEET becomes a row");
        DrainedForAThird x = new DrainedForAThird();
        Due.sheet(x, 1, 1, 1, 2, 3, 4);
        Due.sheet(x, 2, 1, 5, 4, 3, 8);
        x.sheet(0, 1, 40);
        x.sheet(3, 1, 40);
        x.sheet(1, 1, 4);
        Due.digits("another one", x, 2, 1, 4, 3);
        Due.digits("this one", x, 1, 1, 0, 0);
    }

    private static void missing() {
        Due.sentence("or missing (sort -1): 1");
        DrainedForAThird x = new DrainedForAThird();
        for (int s = 0; s < 4; s++) {
            x.sheet(s, 2, 5);
            Due.is("missing", x.sheet(s, -1, 5), 1);
            Due.is("cell", x.cell(s, 0, 1), NOTHING);
            Due.is("copy", x.copy(s, 0, s, 0, 0), NOTHING);
            Due.is("works", x.works(s, 2, 0, 0), NOTHING);
            Due.is("tells", x.tells(s, 0), NOTHING);
            Due.is("missing again", x.sheet(s, -1, 5), 1);
        }
    }

    private static void missingAnyN() {
        Due.sentence("(sort -1: n does not matter)");
        DrainedForAThird x = new DrainedForAThird();
        int[] any = {LOWEST, -1, 0, 40, 41, HIGHEST};
        for (int n : any) {
            x.sheet(2, 0, 3);
            Due.is("sheet(2, -1, " + n + ")", x.sheet(2, -1, n), 1);
            Due.is("it is missing", x.cell(2, 0, 1), NOTHING);
        }
    }

    private static void ofNone() {
        Due.sentence("a row of n of a sort (0)");
        DrainedForAThird x = new DrainedForAThird();
        for (int sort = 0; sort < 3; sort++) {
            Due.is("sheet of none", x.sheet(1, sort, 0), 1);
            Due.is("no item, but not missing", x.cell(1, 0, 1), OUTSIDE);
            Due.is("its sort", x.works(1, sort, 0, 0), 0);
        }
    }

    private static void fortyAtMost() {
        Due.sentence("BAD: n above 40");
        DrainedForAThird x = new DrainedForAThird();
        for (int sort = 0; sort < 3; sort++) {
            Due.is("40", x.sheet(0, sort, 40), 1);
            Due.is("its last item", x.cell(0, 39, 1), 1);
            Due.is("behind it", x.cell(0, 40, 1), OUTSIDE);
            Due.is("41", x.sheet(0, sort, 41), BAD);
            Due.is("the highest", x.sheet(0, sort, HIGHEST), BAD);
            Due.is("as long as it was", x.cell(0, 39, 1), 1);
            Due.is("41 where it was missing", x.sheet(1, sort, 41), BAD);
            Due.is("missing still", x.cell(1, 0, 0), NOTHING);
        }
    }

    private static void belowZero() {
        Due.sentence("-14 a size below 0");
        DrainedForAThird x = new DrainedForAThird();
        Due.sheet(x, 0, 0, 1, 2, 3);
        for (int sort = 0; sort < 3; sort++) {
            Due.is("-1", x.sheet(0, sort, -1), BELOW);
            Due.is("the lowest", x.sheet(0, sort, LOWEST), BELOW);
            Due.is("-41", x.sheet(0, sort, -41), BELOW);
            Due.is("-1 where it was missing", x.sheet(1, sort, -1), BELOW);
            Due.is("missing still", x.cell(1, 0, 0), NOTHING);
        }
        Due.digits("as it was", x, 0, 0, 2);
        Due.is("as long as it was", x.cell(0, 3, 0), OUTSIDE);
    }

    private static void noSuchSheet() {
        Due.sentence("BAD: no such SHEET (0 .. 3)");
        DrainedForAThird x = new DrainedForAThird();
        int[] wrong = {-1, 4, LOWEST, HIGHEST};
        for (int sheet : wrong) {
            Due.is("sheet(" + sheet + ", 0, 1)", x.sheet(sheet, 0, 1), BAD);
            Due.is("sheet(" + sheet + ", -1, 0)", x.sheet(sheet, -1, 0), BAD);
        }
        Due.is("sheet(3, 0, 1)", x.sheet(3, 0, 1), 1);
    }

    private static void noSuchSort() {
        Due.sentence("BAD: sort (-1 .. 2)");
        DrainedForAThird x = new DrainedForAThird();
        int[] wrong = {-2, 3, LOWEST, HIGHEST};
        for (int sort : wrong) {
            Due.is("sheet(0, " + sort + ", 1)", x.sheet(0, sort, 1), BAD);
            Due.is("missing still", x.cell(0, 0, 0), NOTHING);
        }
    }

    private static void badAheadOfBelow() {
        Due.sentence("BAD: no such SHEET, sort; n above 40; -14 (the first that the call's words name)");
        DrainedForAThird x = new DrainedForAThird();
        Due.is("no such SHEET, a size below 0", x.sheet(4, 0, -1), BAD);
        Due.is("no such sort, a size below 0", x.sheet(0, 3, -1), BAD);
        Due.is("no such sort below, a size below 0", x.sheet(0, -2, -1), BAD);
    }

    private static void keeps() {
        Due.sentence("Refusals change nothing");
        int[][] wrong = {{-1, 0, 1, BAD}, {4, 0, 1, BAD}, {0, -2, 1, BAD}, {0, 3, 1, BAD}, {0, 0, 41, BAD}, {1, 0, -1, BELOW},
            {3, 2, -1, BELOW}, {3, 2, 41, BAD}};
        for (int[] w : wrong) {
            Twin.keeps("sheet(" + w[0] + ", " + w[1] + ", " + w[2] + ")", x -> x.sheet(w[0], w[1], w[2]), w[3]);
        }
    }
}
