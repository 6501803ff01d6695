/** Promise 21: back. */
public final class Promise21BackTest {
    private static final int BAD = -2;
    private static final int STATE = -3;

    public static void main(String[] args) {
        thereIsNone();
        howMany();
        worksThatCameSince();
        theImageStays();
        whatItDoesNotKeep();
        behindTheLastYear();
        keeps();
        Due.end();
    }

    private static void thereIsNone() {
        Due.sentence("STATE: there is none.");
        DrainedForAThird x = new DrainedForAThird();
        Due.is("back()", x.back(), STATE);
        x.set(0, 0, 3);
        x.work(0, 0, 0);
        x.year();
        Due.is("back() still", x.back(), STATE);
        Due.is("RIVER", x.told(0, 0), 3);
        Due.is("WORKS", x.count(0), 1);
        Due.is("THE YEAR", x.count(3), 1);
        x.image();
        Due.is("back() now", x.back(), 1);
    }

    private static void howMany() {
        Due.sentence("All that it keeps is as in THE IMAGE: how many WORKS");
        DrainedForAThird x = new DrainedForAThird();
        x.work(0, 0, 0);
        x.work(5, 9, 11);
        x.image();
        Due.is("back() at once", x.back(), 2);
        x.work(1, 1, 1);
        Due.is("back() behind another WORK", x.back(), 2);
        Due.is("WORKS", x.count(0), 2);
    }

    private static void worksThatCameSince() {
        Due.sentence("(WORKS that came since go)");
        DrainedForAThird x = new DrainedForAThird();
        x.work(1, 3, 4);
        x.image();
        for (int w = 1; w < 6; w++) {
            x.work(5, 5, 5);
        }
        x.back();
        for (int w = 1; w < 6; w++) {
            Due.is("WORK " + w + " is gone", x.told(w, 8), BAD);
            Due.is("WORK " + w + " can't be set", x.set(5, w, 1), BAD);
        }
        Due.is("WORKS that go", x.count(1), 1);
        Due.read(x, "rains number;shrinks 1;calls 1;");
        x.force(1);
        Due.is("WORKS that stand on 4", x.asks(0, 4), 1);
        Due.is("WORKS that stand on 5", x.asks(0, 5), 0);
        Due.is("a new one", x.work(3, 6, 7), 1);
        Due.is("its KIND", x.told(1, 8), 3);
        Due.is("its NUMBER", x.told(1, 5), 6);
        Due.is("its CELL", x.told(1, 6), 7);
    }

    private static void theImageStays() {
        Due.sentence("All that it keeps is as in THE IMAGE");
        DrainedForAThird x = new DrainedForAThird();
        x.work(2, 2, 2);
        x.image();
        for (int i = 0; i < 3; i++) {
            x.set(0, 0, i);
            x.set(4, 3, 70 + i);
            x.set(7, 0, 0);
            x.set(6, 0, 9);
            x.year();
            x.work(0, 0, 0);
            Due.is("back() again", x.back(), 1);
            Due.is("RIVER", x.told(0, 0), 35);
            Due.is("WATER", x.told(3, 4), 5);
            Due.is("going", x.told(0, 7), 1);
            Due.is("CELL", x.told(0, 6), 2);
            Due.is("THE YEAR", x.count(3), 0);
        }
    }

    private static void whatItDoesNotKeep() {
        Due.sentence("AN IMAGE keeps HEIGHTS, .. THE RULE");
        DrainedForAThird x = Due.ruled("rains 1;shrinks 2;calls 3;");
        x.image();
        Due.read(x, "rains 3;shrinks 2;calls 3;");
        x.force(2);
        x.feed(65);
        Due.sheet(x, 2, 1, 0, 7, 0);
        x.back();
        Due.is("THE RULE", x.count(7), 1);
        Due.is("rains", x.asks(0, 0), 1);
        Due.is("TEXTS stay", x.count(5), 3);
        Due.is("TEXT 2 stays", x.force(2), 1);
        Due.is("rains by it", x.asks(0, 0), 3);
        Due.is("THE TAPE stays", x.count(6), 1);
        Due.is("SHEETS stay", Due.digit(x, 2, 1, 1), 7);
    }

    private static void behindTheLastYear() {
        Due.sentence("THE YEAR (0 .. 999)");
        DrainedForAThird x = new DrainedForAThird();
        x.set(1, 0, 999);
        x.image();
        x.set(1, 0, 0);
        x.year();
        x.back();
        Due.is("THE YEAR", x.count(3), 999);
        Due.is("year()", x.year(), STATE);
    }

    private static DrainedForAThird without() {
        DrainedForAThird x = new DrainedForAThird();
        x.work(4, 4, 4);
        x.set(4, 3, 70);
        x.year();
        x.feed(65);
        x.sheet(0, 0, 5);
        return x;
    }

    private static void keeps() {
        Due.sentence("Refusals change nothing");
        Twin.keeps("back(), there is none", Promise21BackTest::without, x -> x.back(), STATE);
    }
}
