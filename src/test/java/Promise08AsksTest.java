/** Promise 8: asks. */
public final class Promise08AsksTest {
    private static final int BAD = -2;
    private static final int LOWEST = Integer.MIN_VALUE;
    private static final int HIGHEST = Integer.MAX_VALUE;

    public static void main(String[] args) {
        names();
        numberOfWorks();
        rainsWithinBounds();
        shrinksWithinBounds();
        wrapsAheadOfBounds();
        partBounds();
        noSuchCell();
        keeps();
        Due.end();
    }

    private static void names() {
        Due.sentence("Of a CELL: height: its HEIGHT; peat: PEAT; year: THE YEAR; water: WATER; cell: its number");
        String[] names = {"height", "peat", "year", "water", "cell"};
        int[][] due = {{31, 32, 17, 33, 0}, {41, 42, 17, 43, 4}, {51, 52, 17, 53, 11}};
        int[] cells = {0, 4, 11};
        for (int i = 0; i < names.length; i++) {
            DrainedForAThird x = Due.ruled("rains " + names[i] + ";shrinks " + names[i] + "-30;calls 1;");
            x.set(1, 0, 17);
            for (int c = 0; c < cells.length; c++) {
                x.set(2, cells[c], due[c][0]);
                x.set(3, cells[c], due[c][1]);
                x.set(4, cells[c], due[c][3]);
            }
            for (int c = 0; c < cells.length; c++) {
                Due.is("rains by " + names[i] + " of " + cells[c], x.asks(0, cells[c]), due[c][i]);
                int shrinks = Math.max(0, Math.min(20, due[c][i] - 30));
                Due.is("shrinks by " + names[i] + " of " + cells[c], x.asks(1, cells[c]), shrinks);
            }
        }
    }

    private static void numberOfWorks() {
        Due.sentence("number: how many WORKS stand there (going or not)");
        DrainedForAThird x = Due.ruled("rains number;shrinks 10-number;calls 1;");
        for (int w = 0; w < 6; w++) {
            Due.is("rains with " + w, x.asks(0, 4), w);
            Due.is("shrinks with " + w, x.asks(1, 4), 10 - w);
            x.work(w, 9, 4);
        }
        Due.is("six of them", x.asks(0, 4), 6);
        for (int w = 0; w < 6; w++) {
            x.set(7, w, 0);
        }
        Due.is("none of them goes", x.asks(0, 4), 6);
        Due.is("none stands there", x.asks(0, 3), 0);
        x.set(6, 2, 11);
        Due.is("one stands elsewhere", x.asks(0, 4), 5);
        Due.is("elsewhere", x.asks(0, 11), 1);
        DrainedForAThird y = Due.ruled("rains number;shrinks 1;calls 1;");
        Due.is("on CELL 0 of no WORKS", y.asks(0, 0), 0);
        y.image();
        y.work(0, 9, 4);
        y.back();
        Due.is("one that is gone", y.asks(0, 4), 0);
    }

    private static void said(String e, int part, int due) {
        DrainedForAThird x = Due.ruled("rains " + e + ";shrinks " + e + ";calls 1;");
        Due.is((part == 0 ? "rains " : "shrinks ") + e, x.asks(part, 0), due);
        Due.is((part == 0 ? "rains " : "shrinks ") + e + " on 11", x.asks(part, 11), due);
    }

    private static void rainsWithinBounds() {
        Due.sentence("rains: how much falls there (0 .. 99, else the bound)");
        said("-9999", 0, 0);
        said("-1", 0, 0);
        said("0", 0, 0);
        said("1", 0, 1);
        said("98", 0, 98);
        said("99", 0, 99);
        said("100", 0, 99);
        said("9999", 0, 99);
    }

    private static void shrinksWithinBounds() {
        Due.sentence("shrinks: how much HEIGHT and PEAT are less (0 .. 20, else the bound)");
        said("-9999", 1, 0);
        said("-1", 1, 0);
        said("0", 1, 0);
        said("1", 1, 1);
        said("19", 1, 19);
        said("20", 1, 20);
        said("21", 1, 20);
        said("9999", 1, 20);
        DrainedForAThird x = Due.ruled("rains 1;shrinks 9;calls 1;");
        x.set(3, 4, 1);
        x.set(2, 4, 0);
        Due.is("shrinks 9, though there is less PEAT and no HEIGHT", x.asks(1, 4), 9);
    }

    private static void wrapsAheadOfBounds() {
        Due.sentence("An E is an int (32 bits, wrapping)");
        // 2 to the 31, less 1, and 2 to the 31, which is below 0.
        said("4096*4096*128-1", 0, 99);
        said("4096*4096*128", 0, 0);
        said("4096*4096*128-1", 1, 20);
        said("4096*4096*128", 1, 0);
        said("4096*4096*256+7", 0, 7);
    }

    private static void partBounds() {
        Due.sentence("What part 0 rains, 1 shrinks says of a CELL. BAD.");
        DrainedForAThird x = new DrainedForAThird();
        int[] wrong = {-1, 2, 3, LOWEST, HIGHEST};
        for (int part : wrong) {
            Due.is("asks(" + part + ", 0)", x.asks(part, 0), BAD);
        }
        Due.is("asks(0, 0)", x.asks(0, 0), 6);
        Due.is("asks(1, 0)", x.asks(1, 0), 2);
    }

    private static void noSuchCell() {
        Due.sentence("of a CELL (0 .. 11). BAD.");
        DrainedForAThird x = new DrainedForAThird();
        int[] wrong = {-1, 12, LOWEST, HIGHEST};
        for (int where : wrong) {
            Due.is("asks(0, " + where + ")", x.asks(0, where), BAD);
            Due.is("asks(1, " + where + ")", x.asks(1, where), BAD);
        }
        Due.is("asks(0, 11)", x.asks(0, 11), 6);
    }

    private static void keeps() {
        Due.sentence("Refusals change nothing");
        Twin.keeps("asks(-1, 0)", x -> x.asks(-1, 0), BAD);
        Twin.keeps("asks(2, 0)", x -> x.asks(2, 0), BAD);
        Twin.keeps("asks(0, -1)", x -> x.asks(0, -1), BAD);
        Twin.keeps("asks(1, 12)", x -> x.asks(1, 12), BAD);
        Twin.keeps("asks(0, 11), no refusal", x -> x.asks(0, 11), 14);
    }
}
