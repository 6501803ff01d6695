/** Promise 26: works. */
public final class Promise26WorksTest {
    private static final int BAD = -2;
    private static final int NOTHING = -11;
    private static final int OUTSIDE = -12;
    private static final int UNLIKE = -13;
    private static final int LOWEST = Integer.MIN_VALUE;
    private static final int HIGHEST = Integer.MAX_VALUE;

    public static void main(String[] args) {
        threeByThree();
        howMany();
        ofNone();
        sixOfThem();
        kindsLeftOut();
        numbersLeftOut();
        cellsLeftOut();
        leftOutBetween();
        leftOutForRoom();
        outside();
        outsideBelow();
        whatStoodAheadCame();
        outsideWithoutRoom();
        noSuchSheet();
        noSuchSort();
        howManyBounds();
        anotherSort();
        missing();
        inThisOrder();
        keeps();
        Due.end();
    }

    private static void threeByThree() {
        Due.sentence("WORKS by a SHEET: from one on, three by three (as of work())");
        for (int sort = 0; sort < 3; sort++) {
            DrainedForAThird x = new DrainedForAThird();
            Due.sheet(x, sort, sort, 7, 5, 9, 11, 0, 0, 0, 3, 4, 6);
            Due.is("works", x.works(sort, sort, 1, 3), 3);
            int[][] due = {{5, 9, 11}, {0, 0, 0}, {3, 4, 6}};
            for (int w = 0; w < 3; w++) {
                Due.is("KIND of " + w, x.told(w, 8), due[w][0]);
                Due.is("NUMBER of " + w, x.told(w, 5), due[w][1]);
                Due.is("CELL of " + w, x.told(w, 6), due[w][2]);
                Due.is("going of " + w, x.told(w, 7), 1);
            }
            Due.is("WORKS", x.count(0), 3);
        }
    }

    private static void howMany() {
        Due.sentence("n of them (0 .. 6): how many came");
        for (int n = 0; n <= 6; n++) {
            DrainedForAThird x = new DrainedForAThird();
            x.sheet(0, 0, 40);
            Due.is("works(0, 0, 0, " + n + ")", x.works(0, 0, 0, n), n);
            Due.is("WORKS", x.count(0), n);
        }
    }

    private static void ofNone() {
        Due.sentence("n of them (0 ..)");
        DrainedForAThird x = new DrainedForAThird();
        x.sheet(0, 1, 3);
        x.sheet(1, 2, 0);
        Due.is("none", x.works(0, 1, 0, 0), 0);
        Due.is("none of an empty one", x.works(1, 2, 0, 0), 0);
        // None is read, so no place is one outside.
        Due.is("none, outside", x.works(0, 1, 99, 0), 0);
        Due.is("none, below", x.works(0, 1, -9, 0), 0);
        Due.is("WORKS", x.count(0), 0);
    }

    private static void sixOfThem() {
        Due.sentence("n of them (.. 6)");
        DrainedForAThird x = new DrainedForAThird();
        Due.sheet(x, 0, 0, 0, 1, 2, 1, 2, 3, 2, 3, 4, 3, 4, 5, 4, 5, 6, 5, 6, 7);
        Due.is("works(0, 0, 0, 6)", x.works(0, 0, 0, 6), 6);
        for (int w = 0; w < 6; w++) {
            Due.is("KIND of " + w, x.told(w, 8), w);
            Due.is("NUMBER of " + w, x.told(w, 5), w + 1);
            Due.is("CELL of " + w, x.told(w, 6), w + 2);
        }
    }

    private static void comes(int due, int... three) {
        DrainedForAThird x = new DrainedForAThird();
        Due.sheet(x, 0, 2, three);
        String call = "works of " + three[0] + ", " + three[1] + ", " + three[2];
        Due.is(call, x.works(0, 2, 0, 1), due);
        Due.is(call + ": WORKS", x.count(0), due);
    }

    private static void kindsLeftOut() {
        Due.sentence("(others are left out)");
        comes(1, 0, 1, 1);
        comes(1, 5, 1, 1);
        comes(0, 6, 1, 1);
        comes(0, -1, 1, 1);
        comes(0, LOWEST, 1, 1);
        comes(0, HIGHEST, 1, 1);
        comes(0, 256, 1, 1);
    }

    private static void numbersLeftOut() {
        Due.sentence("(others are left out)");
        comes(1, 1, 0, 1);
        comes(1, 1, 9, 1);
        comes(0, 1, 10, 1);
        comes(0, 1, -1, 1);
        comes(0, 1, LOWEST, 1);
        comes(0, 1, HIGHEST, 1);
        comes(0, 1, 65536, 1);
    }

    private static void cellsLeftOut() {
        Due.sentence("(others are left out)");
        comes(1, 1, 1, 0);
        comes(1, 1, 1, 11);
        comes(0, 1, 1, 12);
        comes(0, 1, 1, -1);
        comes(0, 1, 1, LOWEST);
        comes(0, 1, 1, HIGHEST);
    }

    private static void leftOutBetween() {
        Due.sentence("how many came (others are left out)");
        DrainedForAThird x = new DrainedForAThird();
        Due.sheet(x, 0, 2, 6, 0, 0, 0, 10, 0, 0, 0, 12, 2, 1, 1, -1, 0, 0, 4, 3, 2);
        Due.is("two of six", x.works(0, 2, 0, 6), 2);
        Due.is("WORKS", x.count(0), 2);
        Due.is("KIND of 0", x.told(0, 8), 2);
        Due.is("KIND of 1", x.told(1, 8), 4);
        Due.sheet(x, 1, 0, 0, 0, -1, 0, 0, 128, 200, 0, 0);
        Due.is("none of three bytes", x.works(1, 0, 0, 3), 0);
        Due.is("WORKS still", x.count(0), 2);
    }

    private static void leftOutForRoom() {
        Due.sentence("WORKS (6 at most); (others are left out)");
        for (int there = 0; there <= 6; there++) {
            DrainedForAThird x = new DrainedForAThird();
            for (int w = 0; w < there; w++) {
                x.work(5, 0, 0);
            }
            Due.sheet(x, 0, 1, 1, 1, 1, 1, 2, 1, 1, 3, 1, 1, 4, 1, 1, 5, 1, 1, 6, 1);
            Due.is("room for " + (6 - there), x.works(0, 1, 0, 6), 6 - there);
            Due.is("WORKS", x.count(0), 6);
            Due.is("the last one", x.told(5, 5), there == 6 ? 0 : 6 - there);
        }
    }

    private static void outside() {
        Due.sentence("works: -12 a place outside");
        DrainedForAThird x = new DrainedForAThird();
        x.sheet(0, 0, 8);
        int[] wrong = {6, 7, 8, 9, 40, HIGHEST, HIGHEST - 1, HIGHEST - 2};
        for (int from : wrong) {
            Due.is("works(0, 0, " + from + ", 1)", x.works(0, 0, from, 1), OUTSIDE);
            Due.is("works(0, 0, " + from + ", 6)", x.works(0, 0, from, 6), OUTSIDE);
        }
        Due.is("WORKS", x.count(0), 0);
        Due.is("the last one", x.works(0, 0, 5, 1), 1);
        x.sheet(1, 0, 0);
        Due.is("of an empty one", x.works(1, 0, 0, 1), OUTSIDE);
    }

    private static void outsideBelow() {
        Due.sentence("works: -12 a place outside");
        DrainedForAThird x = new DrainedForAThird();
        x.sheet(0, 0, 40);
        int[] wrong = {-1, -2, -3, -4, LOWEST, LOWEST + 1};
        for (int from : wrong) {
            Due.is("works(0, 0, " + from + ", 1)", x.works(0, 0, from, 1), OUTSIDE);
            Due.is("works(0, 0, " + from + ", 6)", x.works(0, 0, from, 6), OUTSIDE);
        }
        Due.is("WORKS", x.count(0), 0);
    }

    private static void whatStoodAheadCame() {
        Due.sentence("-12: what stood ahead came");
        for (int size = 0; size < 18; size++) {
            DrainedForAThird x = new DrainedForAThird();
            x.sheet(0, 2, size);
            Due.is("six of " + size + " items", x.works(0, 2, 0, 6), OUTSIDE);
            Due.is("what came of " + size, x.count(0), size / 3);
        }
        DrainedForAThird y = new DrainedForAThird();
        Due.sheet(y, 0, 0, 2, 3, 4, 9, 9, 9, 5, 6, 7, 1, 1);
        Due.is("four of eleven", y.works(0, 0, 0, 4), OUTSIDE);
        Due.is("one of three ahead is left out", y.count(0), 2);
        Due.is("NUMBER of 1", y.told(1, 5), 6);
    }

    private static void outsideWithoutRoom() {
        Due.sentence("-12: what stood ahead came");
        DrainedForAThird x = Twin.fullOfWorks();
        x.sheet(0, 0, 18);
        Due.is("no room", x.works(0, 0, 0, 6), 0);
        Due.is("no room, and a place outside", x.works(0, 0, 3, 6), OUTSIDE);
        Due.is("WORKS", x.count(0), 6);
    }

    private static void noSuchSheet() {
        Due.sentence("works: BAD: no such SHEET");
        DrainedForAThird x = Twin.full();
        int[] wrong = {-1, 4, LOWEST, HIGHEST};
        for (int sheet : wrong) {
            Due.is("works(" + sheet + ", 0, 0, 1)", x.works(sheet, 0, 0, 1), BAD);
            Due.is("works(" + sheet + ", 0, 0, 0)", x.works(sheet, 0, 0, 0), BAD);
        }
    }

    private static void noSuchSort() {
        Due.sentence("works: BAD: sort (0 .. 2)");
        DrainedForAThird x = Twin.full();
        int[] wrong = {-1, 3, LOWEST, HIGHEST};
        for (int sort : wrong) {
            for (int s = 0; s < 4; s++) {
                Due.is("works(" + s + ", " + sort + ", 0, 1)", x.works(s, sort, 0, 1), BAD);
                Due.is("works(" + s + ", " + sort + ", 0, 0)", x.works(s, sort, 0, 0), BAD);
            }
        }
    }

    private static void howManyBounds() {
        Due.sentence("works: BAD: n (0 .. 6)");
        DrainedForAThird x = new DrainedForAThird();
        x.sheet(0, 0, 40);
        int[] wrong = {-1, 7, LOWEST, HIGHEST};
        for (int n : wrong) {
            Due.is("works(0, 0, 0, " + n + ")", x.works(0, 0, 0, n), BAD);
        }
        Due.is("WORKS", x.count(0), 0);
    }

    private static void anotherSort() {
        Due.sentence("works: -13 a thing of another sort");
        DrainedForAThird x = Twin.full();
        for (int s = 0; s < 3; s++) {
            for (int sort = 0; sort < 3; sort++) {
                Due.is("works(" + s + ", " + sort + ", 0, 0)", x.works(s, sort, 0, 0), s == sort ? 0 : UNLIKE);
            }
        }
        Due.is("bytes taken for ints", x.works(0, 2, 0, 1), UNLIKE);
        Due.is("ints taken for bytes", x.works(2, 0, 0, 1), UNLIKE);
        Due.is("WORKS", x.count(0), 4);
    }

    private static void missing() {
        Due.sentence("works: -11");
        DrainedForAThird x = Twin.full();
        for (int sort = 0; sort < 3; sort++) {
            Due.is("works(3, " + sort + ", 0, 1)", x.works(3, sort, 0, 1), NOTHING);
            Due.is("works(3, " + sort + ", 0, 0)", x.works(3, sort, 0, 0), NOTHING);
        }
    }

    private static void inThisOrder() {
        Due.sentence("BAD: no such SHEET, sort, n; -13; -11; -12 (the first that the call's words name)");
        DrainedForAThird x = Twin.full();
        Due.is("another sort, n 7", x.works(0, 1, 0, 7), BAD);
        Due.is("missing, n 7", x.works(3, 1, 0, 7), BAD);
        Due.is("missing, sort 3", x.works(3, 3, 0, 0), BAD);
        Due.is("a place outside, n -1", x.works(0, 0, 99, -1), BAD);
        Due.is("another sort, a place outside", x.works(0, 1, 99, 1), UNLIKE);
        Due.is("missing, a place outside", x.works(3, 0, 99, 6), NOTHING);
        Due.is("a place outside", x.works(0, 0, 99, 1), OUTSIDE);
    }

    private static void keeps() {
        Due.sentence("Refusals change nothing");
        int[][] wrong = {{-1, 0, 0, 1, BAD}, {4, 0, 0, 1, BAD}, {0, -1, 0, 1, BAD}, {0, 3, 0, 1, BAD}, {0, 0, 0, -1, BAD},
            {0, 0, 0, 7, BAD}, {0, 1, 0, 1, UNLIKE}, {3, 0, 0, 1, NOTHING}, {0, 0, -1, 1, OUTSIDE}, {0, 0, 5, 1, OUTSIDE}};
        for (int[] w : wrong) {
            Twin.keeps("works(" + w[0] + ", " + w[1] + ", " + w[2] + ", " + w[3] + ")",
                x -> x.works(w[0], w[1], w[2], w[3]), w[4]);
        }
        Twin.keeps("works(0, 0, 0, 2), which has no room", Twin::fullOfWorks, x -> x.works(0, 0, 0, 2), 0);
    }
}
