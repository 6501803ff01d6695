/** Promise 24: cell. */
public final class Promise24CellTest {
    private static final int BAD = -2;
    private static final int NOTHING = -11;
    private static final int OUTSIDE = -12;
    private static final int LOWEST = Integer.MIN_VALUE;
    private static final int HIGHEST = Integer.MAX_VALUE;

    public static void main(String[] args) {
        becomes();
        othersStay();
        ofBytes();
        ofShorts();
        ofInts();
        noSuchSheet();
        missing();
        outside();
        ofNone();
        inThisOrder();
        keeps();
        Due.end();
    }

    private static void becomes() {
        Due.sentence("Item i of a SHEET becomes v: 1");
        DrainedForAThird x = new DrainedForAThird();
        for (int sort = 0; sort < 3; sort++) {
            Due.sheet(x, sort, sort, 3, 9, 11, 8);
            Due.digits("sort " + sort, x, sort, sort, 9);
            Due.is("again", x.cell(sort, 1, 4), 1);
            Due.digits("sort " + sort + " again", x, sort, sort, 4);
            Due.is("as it is", x.cell(sort, 1, 4), 1);
            Due.digits("sort " + sort + " as it was", x, sort, sort, 4);
        }
    }

    private static void othersStay() {
        Due.sentence("Item i of a SHEET");
        DrainedForAThird x = new DrainedForAThird();
        for (int s = 0; s < 4; s++) {
            Due.sheet(x, s, 2, 1, 2, 3, 4, 5);
        }
        x.cell(2, 2, 9);
        Due.digits("this one", x, 2, 2, 2, 9);
        Due.digits("the one ahead", x, 1, 2, 2, 3, 4);
        Due.digits("the one behind", x, 3, 2, 2, 3, 4);
    }

    private static void ofBytes() {
        Due.sentence("of bytes its lowest 8 bits");
        DrainedForAThird x = new DrainedForAThird();
        int[] alike = {5, 256 + 5, 256 * 7 + 5, -256 + 5, 65536 + 5, LOWEST + 5};
        for (int v : alike) {
            Due.sheet(x, 0, 0, 0, v, 0);
            Due.digits("a byte of " + v, x, 0, 0, 5);
        }
        int[] unlike = {128, 255, -1, 127, 256 + 10};
        for (int v : unlike) {
            Due.sheet(x, 0, 0, 0, v, 0);
            Due.digits("a byte of " + v, x, 0, 0, -100);
        }
        Due.sheet(x, 0, 0, 256, 9, 512);
        Due.digits("bytes of 256 and 512 are 0", x, 0, 0, 9);
    }

    private static void ofShorts() {
        Due.sentence("of shorts its lowest 16 bits");
        DrainedForAThird x = new DrainedForAThird();
        int[] alike = {6, 65536 + 6, 65536 * 7 + 6, -65536 + 6, LOWEST + 6};
        for (int v : alike) {
            Due.sheet(x, 0, 1, 0, v, 0);
            Due.digits("a short of " + v, x, 0, 1, 6);
        }
        int[] unlike = {256 + 6, 32768, 65535, -1, -256 + 6};
        for (int v : unlike) {
            Due.sheet(x, 0, 1, 0, v, 0);
            Due.digits("a short of " + v, x, 0, 1, -100);
        }
        DrainedForAThird y = Due.falling();
        Due.sheet(y, 0, 1, 4095 + 65536, 4095 - 65536);
        Due.is("12 bits are told", y.tells(0, 0), -1);
    }

    private static void ofInts() {
        Due.sentence("Item i of a SHEET becomes v");
        DrainedForAThird x = new DrainedForAThird();
        Due.sheet(x, 0, 2, 0, 6, 0);
        Due.digits("an int of 6", x, 0, 2, 6);
        int[] unlike = {256 + 6, 65536 + 6, LOWEST + 6, -1, HIGHEST};
        for (int v : unlike) {
            Due.sheet(x, 0, 2, 0, v, 0);
            Due.digits("an int of " + v, x, 0, 2, -100);
        }
    }

    private static void noSuchSheet() {
        Due.sentence("cell: BAD: no such SHEET");
        DrainedForAThird x = Twin.full();
        int[] wrong = {-1, 4, LOWEST, HIGHEST};
        for (int sheet : wrong) {
            Due.is("cell(" + sheet + ", 0, 0)", x.cell(sheet, 0, 0), BAD);
        }
    }

    private static void missing() {
        Due.sentence("cell: -11");
        DrainedForAThird x = new DrainedForAThird();
        for (int s = 0; s < 4; s++) {
            Due.is("cell(" + s + ", 0, 0)", x.cell(s, 0, 0), NOTHING);
            Due.is("cell(" + s + ", 39, 0)", x.cell(s, 39, 0), NOTHING);
        }
        x.sheet(1, 0, 1);
        Due.is("it is there", x.cell(1, 0, 0), 1);
        x.sheet(1, -1, 1);
        Due.is("it is missing again", x.cell(1, 0, 0), NOTHING);
    }

    private static void outside() {
        Due.sentence("cell: -12 a place outside");
        DrainedForAThird x = new DrainedForAThird();
        for (int n = 1; n <= 40; n += 13) {
            x.sheet(0, 1, n);
            int[] wrong = {-1, n, n + 1, 40, LOWEST, HIGHEST};
            for (int i : wrong) {
                Due.is("of " + n + " cell(0, " + i + ", 1)", x.cell(0, i, 1), i >= 0 && i < n ? 1 : OUTSIDE);
            }
            Due.is("the first of " + n, x.cell(0, 0, 1), 1);
            Due.is("the last of " + n, x.cell(0, n - 1, 1), 1);
        }
    }

    private static void ofNone() {
        Due.sentence("cell: -12 a place outside");
        DrainedForAThird x = new DrainedForAThird();
        x.sheet(3, 2, 0);
        Due.is("cell(3, 0, 1) of none", x.cell(3, 0, 1), OUTSIDE);
        Due.is("cell(3, -1, 1) of none", x.cell(3, -1, 1), OUTSIDE);
    }

    private static void inThisOrder() {
        Due.sentence("BAD: no such SHEET; -11; -12 (the first that the call's words name)");
        DrainedForAThird x = new DrainedForAThird();
        Due.is("no such SHEET, a place outside", x.cell(4, -1, 0), BAD);
        Due.is("missing, a place outside", x.cell(0, -1, 0), NOTHING);
        Due.is("missing, a place far outside", x.cell(0, HIGHEST, 0), NOTHING);
    }

    private static void keeps() {
        Due.sentence("Refusals change nothing");
        Twin.keeps("cell(-1, 0, 3)", x -> x.cell(-1, 0, 3), BAD);
        Twin.keeps("cell(4, 0, 3)", x -> x.cell(4, 0, 3), BAD);
        Twin.keeps("cell(3, 0, 3)", x -> x.cell(3, 0, 3), NOTHING);
        Twin.keeps("cell(0, -1, 3)", x -> x.cell(0, -1, 3), OUTSIDE);
        Twin.keeps("cell(2, 5, 3)", x -> x.cell(2, 5, 3), OUTSIDE);
    }
}
