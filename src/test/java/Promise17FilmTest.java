/** Promise 17: film. */
public final class Promise17FilmTest {
    private static final int NONE = -1;
    private static final int BAD = -2;
    private static final int NOTHING = -11;
    private static final int OUTSIDE = -12;
    private static final int UNLIKE = -13;
    private static final int ALL = 4095;

    public static void main(String[] args) {
        dryCells();
        inPlaceOfWhatWas();
        ofShorts();
        noYears();
        thirtyYears();
        truly();
        behindTheLastYear();
        noSuchSheet();
        yearsBounds();
        keeps();
        Due.end();
    }

    private static void dryCells() {
        Due.sentence("A SHEET truly becomes DRY CELLS (bits) behind 1, .., n YEARS: n");
        DrainedForAThird x = Due.emptied();
        Due.is("film(0, 3)", x.film(0, 3), 3);
        // Three items, told once more on another sheet.
        Due.sheet(x, 1, 1, ALL - Due.bit(5), ALL - Due.bit(5), ALL);
        Due.is("as it comes", x.tells(1, 0), NONE);
        Due.is("the film as it comes", x.tells(0, 0), NONE);
        x.set(4, 5, 7);
        Due.is("the film, if it is otherwise", x.tells(0, 0), 0);
        x.set(4, 5, 20);
        x.set(5, 0, 1);
        Due.is("the film, if it is otherwise at last", x.tells(0, 0), 2);
    }

    private static void inPlaceOfWhatWas() {
        Due.sentence("A SHEET truly becomes");
        DrainedForAThird x = Due.emptied();
        for (int s = 0; s < 4; s++) {
            Due.is("film of a missing one", x.film(s, 5), 5);
            Due.is("its last", x.cell(s, 4, ALL), 1);
            Due.is("behind its last", x.cell(s, 5, 0), OUTSIDE);
            x.sheet(s, 2, 40);
            Due.is("film of a longer one", x.film(s, 2), 2);
            Due.is("it is shorter", x.cell(s, 2, 0), OUTSIDE);
            Due.is("film again", x.film(s, 9), 9);
            Due.is("it is longer", x.cell(s, 8, ALL), 1);
        }
    }

    private static void ofShorts() {
        Due.sentence("DRY CELLS (bits) behind 1, .., n YEARS (shorts)");
        DrainedForAThird x = Due.emptied();
        x.sheet(0, 0, 3);
        x.film(0, 3);
        Due.is("taken for bytes", x.works(0, 0, 0, 0), UNLIKE);
        Due.is("taken for shorts", x.works(0, 1, 0, 0), 0);
        Due.is("taken for ints", x.works(0, 2, 0, 0), UNLIKE);
        x.cell(0, 1, ALL - Due.bit(5) + 65536);
        Due.is("16 bits", x.tells(0, 0), NONE);
    }

    private static void noYears() {
        Due.sentence("film: n (0 .. 30)");
        DrainedForAThird x = Due.emptied();
        Due.is("film(2, 0)", x.film(2, 0), 0);
        Due.is("it is not missing", x.tells(2, 0), NONE);
        Due.is("it has none", x.cell(2, 0, 0), OUTSIDE);
        Due.is("it is of shorts", x.works(2, 1, 0, 0), 0);
    }

    private static void thirtyYears() {
        Due.sentence("film: n (0 .. 30)");
        DrainedForAThird x = Due.emptied();
        Due.is("film(3, 30)", x.film(3, 30), 30);
        Due.is("what it tells", x.tells(3, 0), NONE);
        Due.is("its last", x.cell(3, 29, 0), 1);
        Due.is("its last is otherwise", x.tells(3, 0), 29);
        Due.is("behind its last", x.cell(3, 30, 0), OUTSIDE);
    }

    private static void truly() {
        Due.sentence("n YEARS, in thought");
        DrainedForAThird x = Due.emptied();
        x.film(0, 9);
        Due.is("THE YEAR", x.count(3), 0);
        Due.is("WATER", x.told(5, 4), 20);
        Due.is("PAID", x.count(4), 0);
        x.set(4, 5, 6);
        Due.is("it is kept, as all is otherwise", x.tells(0, 0), 0);
        x.set(4, 5, 20);
        Due.is("as it was", x.tells(0, 0), NONE);
    }

    private static void behindTheLastYear() {
        Due.sentence("(there YEAR may pass 999)");
        DrainedForAThird x = Due.emptied();
        x.set(1, 0, 999);
        Due.is("film from 999", x.film(3, 5), 5);
        Due.is("what it tells", x.tells(3, 0), NONE);
        Due.is("THE YEAR still", x.count(3), 999);
    }

    private static void noSuchSheet() {
        Due.sentence("film: BAD (no such SHEET)");
        DrainedForAThird x = Due.emptied();
        int[] wrong = {-1, 4, Integer.MIN_VALUE, Integer.MAX_VALUE};
        for (int sheet : wrong) {
            Due.is("film(" + sheet + ", 3)", x.film(sheet, 3), BAD);
            Due.is("film(" + sheet + ", 0)", x.film(sheet, 0), BAD);
        }
        Due.is("film(3, 3)", x.film(3, 3), 3);
    }

    private static void yearsBounds() {
        Due.sentence("film: BAD (n YEARS, 0 .. 30)");
        DrainedForAThird x = Due.emptied();
        int[] wrong = {-1, 31, 40, Integer.MIN_VALUE, Integer.MAX_VALUE};
        for (int n : wrong) {
            Due.is("film(0, " + n + ")", x.film(0, n), BAD);
        }
        Due.is("it is missing still", x.tells(0, 0), NOTHING);
    }

    private static void keeps() {
        Due.sentence("Refusals change nothing");
        Twin.keeps("film(-1, 3)", x -> x.film(-1, 3), BAD);
        Twin.keeps("film(4, 3)", x -> x.film(4, 3), BAD);
        Twin.keeps("film(2, -1)", x -> x.film(2, -1), BAD);
        Twin.keeps("film(2, 31)", x -> x.film(2, 31), BAD);
        Twin.keeps("film(3, 31)", x -> x.film(3, 31), BAD);
    }
}
