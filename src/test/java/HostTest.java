/** Promises 23 to 27: sheet, cell, copy, works, taken. */
public final class HostTest {
    private static final int BAD = -2;
    private static final int NOTHING = -11;
    private static final int OUTSIDE = -12;
    private static final int UNLIKE = -13;
    private static final int BELOW = -14;

    public static void main(String[] args) {
        sheet();
        sheetIsNew();
        sheetWrong();
        cell();
        cellNarrows();
        cellWrong();
        copy();
        copyOverlaps();
        copyOfNone();
        copyWrong();
        works();
        worksLeftOut();
        worksFull();
        worksOutside();
        worksWrong();
        taken();
        takenWrong();
        Due.end();
    }

    /** What an item of a sheet is, 0 to 9, as the NUMBER of a work that comes by it. */
    private static int digit(DrainedForAThird x, int sheet, int sort, int i) {
        x.image();
        int came = x.works(sheet, sort, i - 1, 1);
        int number = came == 1 ? x.told(x.count(0) - 1, 5) : -100;
        x.back();
        return number;
    }

    private static void row(DrainedForAThird x, int sheet, int sort, int... items) {
        Due.is("sheet(" + sheet + ", " + sort + ", " + items.length + ")", x.sheet(sheet, sort, items.length), 1);
        for (int i = 0; i < items.length; i++) {
            Due.is("cell(" + sheet + ", " + i + ", " + items[i] + ")", x.cell(sheet, i, items[i]), 1);
        }
    }

    private static void digits(String when, DrainedForAThird x, int sheet, int sort, int... due) {
        for (int i = 0; i < due.length; i++) {
            Due.is(when + ", item " + (i + 1), digit(x, sheet, sort, i + 1), due[i]);
        }
    }

    private static void sheet() {
        DrainedForAThird x = new DrainedForAThird();
        for (int s = 0; s < 4; s++) {
            for (int sort = 0; sort < 3; sort++) {
                Due.is("sheet", x.sheet(s, sort, 40), 1);
                Due.is("the last item", x.cell(s, 39, 1), 1);
                Due.is("behind it", x.cell(s, 40, 1), OUTSIDE);
                Due.is("its sort", x.works(s, sort, 0, 0), 0);
                Due.is("another sort", x.works(s, (sort + 1) % 3, 0, 0), UNLIKE);
                Due.is("shorter", x.sheet(s, sort, 2), 1);
                Due.is("its last item", x.cell(s, 1, 1), 1);
                Due.is("behind its last", x.cell(s, 2, 1), OUTSIDE);
                Due.is("of none", x.sheet(s, sort, 0), 1);
                Due.is("no item", x.cell(s, 0, 1), OUTSIDE);
            }
            Due.is("missing", x.sheet(s, -1, 5), 1);
            Due.is("nothing", x.cell(s, 0, 1), NOTHING);
            Due.is("missing, n is low", x.sheet(s, -1, -7), 1);
            Due.is("missing, n is high", x.sheet(s, -1, 41), 1);
        }
    }

    private static void sheetIsNew() {
        DrainedForAThird x = new DrainedForAThird();
        row(x, 0, 0, 1, 2, 3, 4, 5, 6);
        x.sheet(0, 0, 6);
        digits("all 0", x, 0, 0, 0, 0, 0, 0);
        row(x, 0, 2, 1, 2, 3, 4, 5, 6);
        x.sheet(0, -1, 0);
        x.sheet(0, 2, 6);
        digits("all 0 behind missing", x, 0, 2, 0, 0, 0, 0);
        row(x, 1, 2, 1, 2, 3, 4, 5, 6);
        x.sheet(1, 2, 2);
        x.sheet(1, 2, 6);
        digits("all 0 behind a shorter one", x, 1, 2, 0, 0, 0, 0);
        row(x, 2, 1, 1, 2, 3, 4, 5, 6);
        x.sheet(1, 1, 6);
        digits("another one stays", x, 2, 1, 2, 3, 4, 5);
        row(x, 3, 2, 5, 1, 1);
        x.sheet(3, 2, 3);
        Due.is("a work of zeros", x.works(3, 2, 0, 1), 1);
        Due.is("its KIND", x.told(0, 8), 0);
    }

    private static void sheetWrong() {
        DrainedForAThird x = new DrainedForAThird();
        row(x, 0, 0, 1, 2, 3);
        int[][] wrong = {
            {-1, 0, 1, BAD}, {4, 0, 1, BAD}, {0, -2, 1, BAD}, {0, 3, 1, BAD}, {0, 0, 41, BAD}, {0, 2, Integer.MAX_VALUE, BAD},
            {0, 0, -1, BELOW}, {0, 2, Integer.MIN_VALUE, BELOW}, {4, 0, -1, BAD}, {0, 3, -1, BAD}, {4, -1, 0, BAD},
        };
        for (int[] w : wrong) {
            Due.is("sheet(" + w[0] + ", " + w[1] + ", " + w[2] + ")", x.sheet(w[0], w[1], w[2]), w[3]);
        }
        digits("as it was", x, 0, 0, 2);
        Due.is("as long as it was", x.cell(0, 3, 0), OUTSIDE);
    }

    private static void cell() {
        DrainedForAThird x = new DrainedForAThird();
        for (int sort = 0; sort < 3; sort++) {
            row(x, sort, sort, 3, 9, 11, 8);
            digits("cells of sort " + sort, x, sort, sort, 9);
            Due.is("cell again", x.cell(sort, 1, 4), 1);
            digits("another one", x, sort, sort, 4);
        }
    }

    private static void cellNarrows() {
        DrainedForAThird x = new DrainedForAThird();
        row(x, 0, 0, 256, 256 * 7 + 5, -256);
        digits("bytes", x, 0, 0, 5);
        row(x, 0, 1, 65536, 65536 * 7 + 6, -65536);
        digits("shorts", x, 0, 1, 6);
        row(x, 0, 1, 0, 256 + 6, 0);
        digits("a short of 262", x, 0, 1, -100);
        row(x, 0, 2, 0, 65536 + 6, 0);
        digits("an int of 65542", x, 0, 2, -100);
        row(x, 0, 2, 0, 6, 0);
        digits("an int of 6", x, 0, 2, 6);
    }

    private static void cellWrong() {
        DrainedForAThird x = new DrainedForAThird();
        Due.is("cell(-1, 0, 0)", x.cell(-1, 0, 0), BAD);
        Due.is("cell(4, 0, 0)", x.cell(4, 0, 0), BAD);
        Due.is("cell(0, 0, 0), missing", x.cell(0, 0, 0), NOTHING);
        Due.is("cell(0, -1, 0), missing", x.cell(0, -1, 0), NOTHING);
        x.sheet(0, 0, 3);
        Due.is("cell(0, -1, 0)", x.cell(0, -1, 0), OUTSIDE);
        Due.is("cell(0, 3, 0)", x.cell(0, 3, 0), OUTSIDE);
        Due.is("cell(0, highest, 0)", x.cell(0, Integer.MAX_VALUE, 0), OUTSIDE);
        Due.is("cell(0, lowest, 0)", x.cell(0, Integer.MIN_VALUE, 0), OUTSIDE);
    }

    private static void copy() {
        DrainedForAThird x = new DrainedForAThird();
        row(x, 0, 1, 0, 1, 2, 3, 4, 5);
        row(x, 1, 1, 0, 5, 5, 5, 5, 5);
        Due.is("copy", x.copy(0, 1, 1, 2, 3), 3);
        digits("what came", x, 1, 1, 5, 1, 2, 3);
        digits("what was copied", x, 0, 1, 1, 2, 3, 4);
        Due.is("copy all", x.copy(1, 0, 0, 0, 6), 6);
        digits("all came", x, 0, 1, 5, 1, 2, 3);
        row(x, 2, 2, 70000, 1, 2);
        row(x, 3, 2, 0, 0, 0);
        Due.is("copy ints", x.copy(2, 0, 3, 0, 3), 3);
        Due.is("a wide one came as it was", x.works(3, 2, 0, 1), 0);
        Due.is("copy to the end", x.copy(2, 2, 3, 2, 1), 1);
    }

    private static void copyOverlaps() {
        DrainedForAThird x = new DrainedForAThird();
        row(x, 0, 0, 0, 1, 2, 3, 4, 5, 6);
        Due.is("copy on itself, up", x.copy(0, 1, 0, 2, 4), 4);
        digits("as they were, up", x, 0, 0, 1, 1, 2, 3, 4);
        row(x, 0, 0, 0, 1, 2, 3, 4, 5, 6);
        Due.is("copy on itself, down", x.copy(0, 2, 0, 1, 4), 4);
        digits("as they were, down", x, 0, 0, 2, 3, 4, 5, 5);
    }

    private static void copyOfNone() {
        DrainedForAThird x = new DrainedForAThird();
        row(x, 0, 0, 1, 2, 3);
        x.sheet(1, 0, 0);
        Due.is("none", x.copy(0, 0, 1, 0, 0), 0);
        Due.is("none from the end", x.copy(0, 3, 1, 0, 0), 0);
        Due.is("none from behind the end", x.copy(0, 4, 1, 0, 0), OUTSIDE);
        Due.is("none to behind the end", x.copy(0, 0, 1, 1, 0), OUTSIDE);
        Due.is("none from below", x.copy(0, -1, 1, 0, 0), OUTSIDE);
        Due.is("none to below", x.copy(0, 0, 1, -1, 0), OUTSIDE);
    }

    private static void copyWrong() {
        DrainedForAThird x = new DrainedForAThird();
        row(x, 0, 0, 1, 2, 3);
        row(x, 1, 1, 1, 2, 3);
        row(x, 3, 0, 4, 5, 6);
        int top = Integer.MAX_VALUE;
        int[][] wrong = {
            {-1, 0, 0, 0, 1, BAD}, {4, 0, 0, 0, 1, BAD}, {0, 0, -1, 0, 1, BAD}, {0, 0, 4, 0, 1, BAD}, {2, 0, 4, 0, 1, BAD},
            {2, 0, 0, 0, 1, NOTHING}, {0, 0, 2, 0, 1, NOTHING}, {2, 0, 2, 0, 1, NOTHING}, {2, 0, 1, 9, -1, NOTHING},
            {0, 0, 1, 0, 1, UNLIKE}, {1, 0, 0, 0, 0, UNLIKE}, {0, 9, 1, 0, -1, UNLIKE},
            {0, 0, 3, 0, -1, OUTSIDE}, {0, 0, 3, 0, 4, OUTSIDE}, {0, 1, 3, 0, 3, OUTSIDE}, {0, 0, 3, 1, 3, OUTSIDE},
            {0, -1, 3, 0, 1, OUTSIDE}, {0, 0, 3, -1, 1, OUTSIDE}, {0, 3, 3, 0, 1, OUTSIDE}, {0, 0, 3, 3, 1, OUTSIDE},
            {0, top, 3, 0, 1, OUTSIDE}, {0, 0, 3, top, 1, OUTSIDE}, {0, 1, 3, 0, top, OUTSIDE}, {0, 0, 3, 1, top, OUTSIDE},
            {0, 0, 3, 0, Integer.MIN_VALUE, OUTSIDE}, {0, Integer.MIN_VALUE, 3, 0, 1, OUTSIDE},
        };
        for (int[] w : wrong) {
            Due.is("copy(" + w[0] + ", " + w[1] + ", " + w[2] + ", " + w[3] + ", " + w[4] + ")",
                x.copy(w[0], w[1], w[2], w[3], w[4]), w[5]);
        }
        digits("nothing came", x, 3, 0, 5);
    }

    private static void works() {
        for (int sort = 0; sort < 3; sort++) {
            DrainedForAThird x = new DrainedForAThird();
            row(x, sort, sort, 7, 5, 9, 11, 0, 0, 0, 3, 4, 6);
            Due.is("works", x.works(sort, sort, 1, 3), 3);
            int[][] due = {{5, 9, 11}, {0, 0, 0}, {3, 4, 6}};
            for (int w = 0; w < 3; w++) {
                Due.is("KIND of " + w, x.told(w, 8), due[w][0]);
                Due.is("NUMBER of " + w, x.told(w, 5), due[w][1]);
                Due.is("CELL of " + w, x.told(w, 6), due[w][2]);
                Due.is("going of " + w, x.told(w, 7), 1);
            }
            Due.is("none of them", x.works(sort, sort, 1, 0), 0);
            Due.is("WORKS", x.count(0), 3);
        }
    }

    private static void worksLeftOut() {
        DrainedForAThird x = new DrainedForAThird();
        row(x, 0, 2, 6, 0, 0, 0, 10, 0, 0, 0, 12, 2, 1, 1, -1, 0, 0, 0, -1, 0);
        Due.is("others are left out", x.works(0, 2, 0, 6), 1);
        Due.is("WORKS", x.count(0), 1);
        Due.is("KIND", x.told(0, 8), 2);
        row(x, 1, 0, 0, 0, -1, 0, 0, 128, 200, 0, 0);
        Due.is("others still", x.works(1, 0, 0, 3), 0);
        Due.is("WORKS still", x.count(0), 1);
    }

    private static void worksFull() {
        DrainedForAThird x = new DrainedForAThird();
        x.sheet(0, 0, 18);
        Due.is("six", x.works(0, 0, 0, 6), 6);
        Due.is("no room", x.works(0, 0, 0, 6), 0);
        Due.is("no room, and a place outside", x.works(0, 0, 3, 6), OUTSIDE);
        Due.is("WORKS", x.count(0), 6);
        DrainedForAThird y = new DrainedForAThird();
        for (int w = 0; w < 4; w++) {
            y.work(0, 0, 0);
        }
        y.sheet(0, 0, 18);
        Due.is("room for two", y.works(0, 0, 0, 6), 2);
    }

    private static void worksOutside() {
        DrainedForAThird x = new DrainedForAThird();
        x.sheet(0, 0, 8);
        Due.is("three of 8", x.works(0, 0, 0, 3), OUTSIDE);
        Due.is("what stood ahead came", x.count(0), 2);
        Due.is("one below", x.works(0, 0, -1, 1), OUTSIDE);
        Due.is("one at the end", x.works(0, 0, 6, 1), OUTSIDE);
        Due.is("one behind", x.works(0, 0, 8, 1), OUTSIDE);
        Due.is("one at the highest", x.works(0, 0, Integer.MAX_VALUE, 1), OUTSIDE);
        Due.is("one at the lowest", x.works(0, 0, Integer.MIN_VALUE, 6), OUTSIDE);
        Due.is("WORKS", x.count(0), 2);
        Due.is("the last one", x.works(0, 0, 5, 1), 1);
        Due.is("none of them, outside", x.works(0, 0, 99, 0), 0);
        Due.is("none of them, below", x.works(0, 0, -9, 0), 0);
    }

    private static void worksWrong() {
        DrainedForAThird x = new DrainedForAThird();
        x.sheet(0, 1, 30);
        int[][] wrong = {
            {-1, 0, 0, 1, BAD}, {4, 0, 0, 1, BAD}, {0, -1, 0, 1, BAD}, {0, 3, 0, 1, BAD}, {0, 1, 0, -1, BAD}, {0, 1, 0, 7, BAD},
            {1, -1, 0, 0, BAD}, {0, 0, 0, 7, BAD}, {0, 0, 0, 1, UNLIKE}, {0, 2, 0, 0, UNLIKE}, {0, 2, 99, 1, UNLIKE},
            {1, 0, 0, 0, NOTHING}, {1, 2, 99, 6, NOTHING}, {0, 1, 99, 1, OUTSIDE},
        };
        for (int[] w : wrong) {
            Due.is("works(" + w[0] + ", " + w[1] + ", " + w[2] + ", " + w[3] + ")", x.works(w[0], w[1], w[2], w[3]), w[4]);
        }
        Due.is("WORKS", x.count(0), 0);
    }

    private static void taken() {
        // KIND by KIND, whether it is one of KIND 0 .. 5 or under that one.
        String[] under = {"100000", "110000", "101000", "110100", "101010", "100001"};
        DrainedForAThird x = new DrainedForAThird();
        for (int kind = 0; kind < 6; kind++) {
            x.work(kind, 9 - kind, 0);
        }
        for (int kind = 0; kind < 6; kind++) {
            for (int k = 0; k < 6; k++) {
                Due.is("taken(" + kind + ", " + k + ")", x.taken(kind, k), under[kind].charAt(k) == '1' ? 9 - kind : UNLIKE);
            }
        }
        x.set(7, 3, 0);
        x.set(5, 3, 1);
        Due.is("its NUMBER now, though it does not go", x.taken(3, 1), 1);
    }

    private static void takenWrong() {
        DrainedForAThird x = new DrainedForAThird();
        x.work(0, 0, 0);
        Due.is("taken(0, -1)", x.taken(0, -1), BAD);
        Due.is("taken(0, 6)", x.taken(0, 6), BAD);
        Due.is("taken(1, 6)", x.taken(1, 6), BAD);
        Due.is("taken(1, 0)", x.taken(1, 0), NOTHING);
        Due.is("taken(-1, 0)", x.taken(-1, 0), NOTHING);
        Due.is("taken(0, 5)", x.taken(0, 5), UNLIKE);
        Due.is("taken(0, 0)", x.taken(0, 0), 0);
    }
}
