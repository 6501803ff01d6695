/** Promise 25: copy. */
public final class Promise25CopyTest {
    private static final int BAD = -2;
    private static final int NOTHING = -11;
    private static final int OUTSIDE = -12;
    private static final int UNLIKE = -13;
    private static final int LOWEST = Integer.MIN_VALUE;
    private static final int HIGHEST = Integer.MAX_VALUE;

    public static void main(String[] args) {
        comes();
        all();
        ofWideNumbers();
        asTheyWere();
        ofNone();
        noSuchSheet();
        missing();
        unlikeSorts();
        outsideFrom();
        outsideTo();
        belowZero();
        inThisOrder();
        keeps();
        Due.end();
    }

    private static void comes() {
        Due.sentence("n numbers of a SHEET, from item i on, come to another one's item j on: n");
        DrainedForAThird x = new DrainedForAThird();
        for (int sort = 0; sort < 3; sort++) {
            Due.sheet(x, 0, sort, 0, 1, 2, 3, 4, 5);
            Due.sheet(x, 1, sort, 0, 5, 5, 5, 5, 5);
            Due.is("copy", x.copy(0, 1, 1, 2, 3), 3);
            Due.digits("what came", x, 1, sort, 5, 1, 2, 3);
            Due.digits("what was copied", x, 0, sort, 1, 2, 3, 4);
            Due.is("copy of one", x.copy(0, 4, 1, 1, 1), 1);
            Due.digits("one came", x, 1, sort, 4, 1, 2, 3);
        }
    }

    private static void all() {
        Due.sentence("n numbers of a SHEET, from item i on");
        DrainedForAThird x = new DrainedForAThird();
        Due.sheet(x, 0, 1, 0, 1, 2, 3, 4, 5);
        x.sheet(1, 1, 40);
        Due.is("to the start", x.copy(0, 0, 1, 0, 6), 6);
        Due.digits("all came", x, 1, 1, 1, 2, 3, 4, 5, 0);
        Due.is("to the end", x.copy(0, 0, 1, 34, 6), 6);
        Due.is("from the end", x.copy(1, 34, 0, 0, 6), 6);
        Due.digits("all came back", x, 0, 1, 1, 2, 3, 4);
        Due.is("40", x.copy(1, 0, 1, 0, 40), 40);
        Due.is("the last one", x.copy(1, 39, 1, 0, 1), 1);
    }

    private static void ofWideNumbers() {
        Due.sentence("n numbers of a SHEET come to another one's");
        DrainedForAThird x = new DrainedForAThird();
        Due.sheet(x, 2, 2, 65536, 1, 2);
        Due.sheet(x, 3, 2, 0, 0, 0);
        Due.is("copy of ints", x.copy(2, 0, 3, 0, 3), 3);
        Due.is("a wide one is no KIND", x.works(3, 2, 0, 1), 0);
        Due.is("copy without it", x.copy(2, 1, 3, 0, 2), 2);
        Due.is("a WORK", x.works(3, 2, 0, 1), 1);
        Due.is("its KIND", x.told(0, 8), 1);
        Due.is("its NUMBER", x.told(0, 5), 2);
        Due.is("its CELL", x.told(0, 6), 2);
    }

    private static void asTheyWere() {
        Due.sentence("(as they were)");
        DrainedForAThird x = new DrainedForAThird();
        for (int sort = 0; sort < 3; sort++) {
            Due.sheet(x, 0, sort, 0, 1, 2, 3, 4, 5, 6);
            Due.is("on itself, up", x.copy(0, 1, 0, 2, 4), 4);
            Due.digits("up", x, 0, sort, 1, 1, 2, 3, 4);
            Due.sheet(x, 0, sort, 0, 1, 2, 3, 4, 5, 6);
            Due.is("on itself, down", x.copy(0, 2, 0, 1, 4), 4);
            Due.digits("down", x, 0, sort, 2, 3, 4, 5, 5);
            Due.sheet(x, 0, sort, 0, 1, 2, 3, 4, 5, 6);
            Due.is("on itself, to its own place", x.copy(0, 0, 0, 0, 7), 7);
            Due.digits("its own place", x, 0, sort, 1, 2, 3, 4, 5);
        }
    }

    private static void ofNone() {
        Due.sentence("n numbers (0)");
        DrainedForAThird x = new DrainedForAThird();
        Due.sheet(x, 0, 0, 1, 2, 3);
        x.sheet(1, 0, 0);
        Due.is("none", x.copy(0, 0, 1, 0, 0), 0);
        Due.is("none from the end", x.copy(0, 3, 1, 0, 0), 0);
        Due.is("none to the end", x.copy(1, 0, 0, 3, 0), 0);
        Due.is("none from behind the end", x.copy(0, 4, 1, 0, 0), OUTSIDE);
        Due.is("none to behind the end", x.copy(0, 0, 1, 1, 0), OUTSIDE);
        Due.is("none from below", x.copy(0, -1, 1, 0, 0), OUTSIDE);
        Due.is("none to below", x.copy(0, 0, 1, -1, 0), OUTSIDE);
        Due.digits("as it was", x, 0, 0, 2);
    }

    private static void noSuchSheet() {
        Due.sentence("copy: BAD: no such SHEET");
        DrainedForAThird x = Twin.full();
        int[] wrong = {-1, 4, LOWEST, HIGHEST};
        for (int sheet : wrong) {
            Due.is("copy(" + sheet + ", 0, 0, 0, 1)", x.copy(sheet, 0, 0, 0, 1), BAD);
            Due.is("copy(0, 0, " + sheet + ", 0, 1)", x.copy(0, 0, sheet, 0, 1), BAD);
        }
    }

    private static void missing() {
        Due.sentence("copy: -11");
        DrainedForAThird x = Twin.full();
        Due.is("from a missing one", x.copy(3, 0, 0, 0, 1), NOTHING);
        Due.is("to a missing one", x.copy(0, 0, 3, 0, 1), NOTHING);
        Due.is("on itself", x.copy(3, 0, 3, 0, 1), NOTHING);
        Due.is("none from a missing one", x.copy(3, 0, 0, 0, 0), NOTHING);
        Due.is("none to a missing one", x.copy(0, 0, 3, 0, 0), NOTHING);
    }

    private static void unlikeSorts() {
        Due.sentence("-13: they are of unlike sorts");
        DrainedForAThird x = Twin.full();
        for (int s = 0; s < 3; s++) {
            for (int other = 0; other < 3; other++) {
                Due.is("copy(" + s + ", 0, " + other + ", 0, 1)", x.copy(s, 0, other, 0, 1), s == other ? 1 : UNLIKE);
                Due.is("copy(" + s + ", 0, " + other + ", 0, 0)", x.copy(s, 0, other, 0, 0), s == other ? 0 : UNLIKE);
            }
        }
    }

    private static DrainedForAThird twoRows() {
        DrainedForAThird x = new DrainedForAThird();
        Due.sheet(x, 0, 0, 1, 2, 3);
        Due.sheet(x, 1, 0, 4, 5, 6, 7);
        return x;
    }

    private static void outsideFrom() {
        Due.sentence("copy: -12 a place outside (of the one)");
        DrainedForAThird x = twoRows();
        int[][] wrong = {{-1, 1}, {0, 4}, {1, 3}, {2, 2}, {3, 1}, {4, 0}, {HIGHEST, 1}, {LOWEST, 1}, {HIGHEST, 0}, {1, HIGHEST},
            {HIGHEST, HIGHEST}, {0, HIGHEST}, {-1, 2}, {-3, 3}};
        for (int[] w : wrong) {
            Due.is("copy(0, " + w[0] + ", 1, 0, " + w[1] + ")", x.copy(0, w[0], 1, 0, w[1]), OUTSIDE);
        }
        Due.digits("nothing came", x, 1, 0, 5, 6);
        Due.is("all three", x.copy(0, 0, 1, 0, 3), 3);
        Due.is("the last one", x.copy(0, 2, 1, 0, 1), 1);
    }

    private static void outsideTo() {
        Due.sentence("copy: -12 a place outside (of the other)");
        DrainedForAThird x = twoRows();
        int[][] wrong = {{-1, 1}, {0, 4}, {1, 3}, {2, 2}, {3, 1}, {4, 0}, {HIGHEST, 1}, {LOWEST, 1}, {HIGHEST, 0}, {1, HIGHEST},
            {HIGHEST, HIGHEST}, {-1, 2}, {-3, 3}};
        for (int[] w : wrong) {
            Due.is("copy(1, 0, 0, " + w[0] + ", " + w[1] + ")", x.copy(1, 0, 0, w[0], w[1]), OUTSIDE);
        }
        Due.digits("nothing came", x, 0, 0, 2);
        Due.is("three", x.copy(1, 1, 0, 0, 3), 3);
    }

    private static void belowZero() {
        Due.sentence("-12 (also with n below 0)");
        DrainedForAThird x = twoRows();
        int[] wrong = {-1, -2, -40, LOWEST, LOWEST + 1};
        for (int n : wrong) {
            Due.is("copy(0, 0, 1, 0, " + n + ")", x.copy(0, 0, 1, 0, n), OUTSIDE);
            Due.is("copy(0, 3, 1, 3, " + n + ")", x.copy(0, 3, 1, 3, n), OUTSIDE);
            Due.is("copy(0, 1, 0, 1, " + n + ")", x.copy(0, 1, 0, 1, n), OUTSIDE);
        }
    }

    private static void inThisOrder() {
        Due.sentence("BAD: no such SHEET; -11; -13; -12 (the first that the call's words name)");
        DrainedForAThird x = Twin.full();
        Due.is("missing, no such SHEET", x.copy(3, 0, 4, 0, 1), BAD);
        Due.is("no such SHEET, missing", x.copy(-1, 0, 3, 0, 1), BAD);
        Due.is("no such SHEET, a place outside", x.copy(0, -1, 4, 0, -1), BAD);
        Due.is("missing, a place outside", x.copy(3, -1, 0, 0, 1), NOTHING);
        Due.is("missing, n below 0", x.copy(0, 0, 3, 0, -1), NOTHING);
        Due.is("unlike, a place outside", x.copy(0, 99, 1, 0, 1), UNLIKE);
        Due.is("unlike, n below 0", x.copy(0, 0, 2, 0, -1), UNLIKE);
    }

    private static void keeps() {
        Due.sentence("Refusals change nothing");
        int[][] wrong = {{-1, 0, 0, 0, 1, BAD}, {0, 0, 4, 0, 1, BAD}, {3, 0, 0, 0, 1, NOTHING}, {0, 0, 3, 0, 1, NOTHING},
            {0, 0, 1, 0, 1, UNLIKE}, {0, 0, 0, 5, 3, OUTSIDE}, {0, 5, 0, 0, 3, OUTSIDE}, {0, 0, 0, 1, -1, OUTSIDE},
            {1, -1, 1, 0, 2, OUTSIDE}, {1, 0, 1, -1, 2, OUTSIDE}};
        for (int[] w : wrong) {
            Twin.keeps("copy(" + w[0] + ", " + w[1] + ", " + w[2] + ", " + w[3] + ", " + w[4] + ")",
                x -> x.copy(w[0], w[1], w[2], w[3], w[4]), w[5]);
        }
    }
}
