/** Promise 1: a new object; the constants of the face. */
public final class Promise01NewObjectTest {
    private static final int BAD = -2;
    private static final int NOTHING = -11;
    private static final int LAST_CALL = 512;

    public static void main(String[] args) {
        constants();
        noWorks();
        twelveCells();
        cellsAtFirst();
        riverAtFirst();
        yearAtFirst();
        paidAtFirst();
        textsAtFirst();
        tapeAtFirst();
        sheetsAtFirst();
        noImage();
        eachOnItsOwn();
        lastCall();
        Due.end();
    }

    private static void constants() {
        Due.sentence("NONE = -1, BAD = -2, STATE = -3, FULL = -4; NO = -4611686018427387904L");
        Due.is("NONE", DrainedForAThird.NONE, -1);
        Due.is("BAD", DrainedForAThird.BAD, -2);
        Due.is("STATE", DrainedForAThird.STATE, -3);
        Due.is("FULL", DrainedForAThird.FULL, -4);
        Due.is("NO", DrainedForAThird.NO, -4611686018427387904L);
    }

    private static void noWorks() {
        Due.sentence("No WORKS.");
        DrainedForAThird x = new DrainedForAThird();
        Due.is("WORKS", x.count(0), 0);
        Due.is("WORKS that go", x.count(1), 0);
        for (int what = 5; what <= 10; what++) {
            Due.is("told(0, " + what + ")", x.told(0, what), BAD);
        }
        Due.is("taken(0, 0)", x.taken(0, 0), NOTHING);
        Due.is("floods(0, 0)", x.floods(0, 0), BAD);
        Due.is("idle(0)", x.idle(0), -1);
        Due.is("the first one that comes", x.work(5, 9, 11), 0);
    }

    private static void twelveCells() {
        Due.sentence("CELLS 0 .. 11 in a row");
        DrainedForAThird x = new DrainedForAThird();
        for (int what = 2; what <= 4; what++) {
            Due.is("told(-1, " + what + ")", x.told(-1, what), BAD);
            Due.holds("told(0, " + what + ") is told", x.told(0, what) > 0);
            Due.holds("told(11, " + what + ") is told", x.told(11, what) > 0);
            Due.is("told(12, " + what + ")", x.told(12, what), BAD);
        }
    }

    private static void cellsAtFirst() {
        Due.sentence("each of a HEIGHT (40 at first), with PEAT (20 at first), WATER (5 at first) on it");
        DrainedForAThird x = new DrainedForAThird();
        for (int c = 0; c < 12; c++) {
            Due.is("HEIGHT of " + c, x.told(c, 2), 40);
            Due.is("PEAT of " + c, x.told(c, 3), 20);
            Due.is("WATER of " + c, x.told(c, 4), 5);
        }
        Due.is("DRY", x.count(2), 0);
    }

    private static void riverAtFirst() {
        Due.sentence("RIVER: how high it stands (35 at first)");
        Due.is("told(0, 0)", new DrainedForAThird().told(0, 0), 35);
    }

    private static void yearAtFirst() {
        Due.sentence("THE YEAR (0 at first)");
        DrainedForAThird x = new DrainedForAThird();
        Due.is("told(0, 1)", x.told(0, 1), 0);
        Due.is("count(3)", x.count(3), 0);
    }

    private static void paidAtFirst() {
        Due.sentence("PAID: a number (0 at first)");
        Due.is("count(4)", new DrainedForAThird().count(4), 0);
    }

    private static void textsAtFirst() {
        Due.sentence("TEXT 0, at first THE RULE, is: rains 6 ; shrinks 2 ; calls 3 ;");
        DrainedForAThird x = new DrainedForAThird();
        Due.is("TEXTS", x.count(5), 1);
        Due.is("THE RULE", x.count(7), 0);
        for (int c = 0; c < 12; c++) {
            Due.is("rains on " + c, x.asks(0, c), 6);
            Due.is("shrinks of " + c, x.asks(1, c), 2);
        }
        x.work(0, 9, 0);
        x.work(0, 0, 11);
        Due.is("calls on 0", x.told(0, 10), 3);
        Due.is("calls on 11", x.told(1, 10), 3);
    }

    private static void tapeAtFirst() {
        Due.sentence("A TEXT is read from THE TAPE");
        DrainedForAThird x = new DrainedForAThird();
        Due.is("bytes", x.count(6), 0);
        Due.is("the first one", x.feed(32), 1);
    }

    private static void sheetsAtFirst() {
        Due.sentence("SHEETS 0 .. 3 are rows of numbers, or missing (as all are at first)");
        DrainedForAThird x = new DrainedForAThird();
        Due.is("SHEET -1", x.cell(-1, 0, 0), BAD);
        for (int s = 0; s < 4; s++) {
            Due.is("SHEET " + s, x.cell(s, 0, 0), NOTHING);
        }
        Due.is("SHEET 4", x.cell(4, 0, 0), BAD);
    }

    private static void noImage() {
        Due.sentence("STATE: there is none.");
        Due.is("back()", new DrainedForAThird().back(), -3);
    }

    private static void eachOnItsOwn() {
        Due.sentence("A new object");
        DrainedForAThird x = new DrainedForAThird();
        x.work(0, 0, 0);
        x.set(4, 3, 77);
        x.image();
        Due.read(x, "rains 1;shrinks 1;calls 1;");
        x.force(1);
        x.feed(32);
        x.sheet(1, 1, 1);
        x.year();
        noWorks();
        cellsAtFirst();
        yearAtFirst();
        textsAtFirst();
        tapeAtFirst();
        sheetsAtFirst();
        noImage();
    }

    private static void lastCall() {
        Due.sentence("An object is used for at most 512 calls after it has been made");
        DrainedForAThird x = new DrainedForAThird();
        for (int w = 0; w < 6; w++) {
            x.work(4, 9, 2 * w);
        }
        x.film(0, 30);
        for (int call = 8; call < LAST_CALL; call++) {
            x.tells(0, call % 2 == 0 ? 2 : 30);
        }
        Due.is("the last call", x.tells(0, 0), -1);
        DrainedForAThird y = new DrainedForAThird();
        for (int call = 1; call < LAST_CALL; call++) {
            y.year();
        }
        Due.is("the last call counts them", y.count(3), LAST_CALL - 1);
    }
}
