/** Promise 3: work. */
public final class Promise03WorkTest {
    private static final int BAD = -2;
    private static final int FULL = -4;
    private static final int LOWEST = Integer.MIN_VALUE;
    private static final int HIGHEST = Integer.MAX_VALUE;

    public static void main(String[] args) {
        itsNumber();
        comesGoing();
        kindBounds();
        numberBounds();
        cellBounds();
        sixAtMost();
        badAheadOfFull();
        roomBehindBack();
        keeps();
        Due.end();
    }

    private static void itsNumber() {
        Due.sentence("A WORK: its number");
        DrainedForAThird x = new DrainedForAThird();
        for (int kind = 0; kind < 6; kind++) {
            Due.is("work " + kind, x.work(kind, 9 - kind, 11 - 2 * kind), kind);
            Due.is("WORKS", x.count(0), kind + 1);
        }
        for (int w = 0; w < 6; w++) {
            Due.is("KIND of " + w, x.told(w, 8), w);
            Due.is("NUMBER of " + w, x.told(w, 5), 9 - w);
            Due.is("CELL of " + w, x.told(w, 6), 11 - 2 * w);
        }
    }

    private static void comesGoing() {
        Due.sentence("go (1, as one comes)");
        DrainedForAThird x = new DrainedForAThird();
        for (int kind = 0; kind < 6; kind++) {
            x.work(kind, 0, 0);
            Due.is("going of " + kind, x.told(kind, 7), 1);
            Due.is("WORKS that go", x.count(1), kind + 1);
        }
        DrainedForAThird y = new DrainedForAThird();
        y.image();
        y.work(0, 0, 0);
        y.set(7, 0, 0);
        y.back();
        y.work(0, 0, 0);
        Due.is("one in the place of one that did not go", y.told(0, 7), 1);
    }

    private static void kindBounds() {
        Due.sentence("WORKS have a KIND: 0 WORK, .. 5 BANK");
        DrainedForAThird x = new DrainedForAThird();
        int[] wrong = {-1, 6, LOWEST, HIGHEST, 256, 65536};
        for (int kind : wrong) {
            Due.is("work(" + kind + ", 1, 1)", x.work(kind, 1, 1), BAD);
        }
        Due.is("work(0, 1, 1)", x.work(0, 1, 1), 0);
        Due.is("work(5, 1, 1)", x.work(5, 1, 1), 1);
    }

    private static void numberBounds() {
        Due.sentence("a NUMBER (0 .. 9)");
        DrainedForAThird x = new DrainedForAThird();
        int[] wrong = {-1, 10, LOWEST, HIGHEST, 256, 65536};
        for (int number : wrong) {
            Due.is("work(1, " + number + ", 1)", x.work(1, number, 1), BAD);
        }
        Due.is("work(1, 0, 1)", x.work(1, 0, 1), 0);
        Due.is("work(1, 9, 1)", x.work(1, 9, 1), 1);
    }

    private static void cellBounds() {
        Due.sentence("stand on a CELL (0 .. 11)");
        DrainedForAThird x = new DrainedForAThird();
        int[] wrong = {-1, 12, LOWEST, HIGHEST, 256, 65536};
        for (int on : wrong) {
            Due.is("work(1, 1, " + on + ")", x.work(1, 1, on), BAD);
        }
        Due.is("work(1, 1, 0)", x.work(1, 1, 0), 0);
        Due.is("work(1, 1, 11)", x.work(1, 1, 11), 1);
    }

    private static void sixAtMost() {
        Due.sentence("WORKS (6 at most, numbered from 0)");
        DrainedForAThird x = new DrainedForAThird();
        for (int w = 0; w < 6; w++) {
            Due.is("on a like CELL", x.work(0, 0, 7), w);
        }
        Due.is("the seventh", x.work(0, 0, 7), FULL);
        Due.is("the seventh again", x.work(5, 9, 11), FULL);
        x.set(7, 3, 0);
        Due.is("one that does not go keeps its room", x.work(0, 0, 0), FULL);
        Due.is("WORKS", x.count(0), 6);
    }

    private static void badAheadOfFull() {
        Due.sentence("BAD; FULL. (the first that the call's words name)");
        DrainedForAThird x = Twin.fullOfWorks();
        Due.is("work(6, 0, 0)", x.work(6, 0, 0), BAD);
        Due.is("work(0, 10, 0)", x.work(0, 10, 0), BAD);
        Due.is("work(0, 0, 12)", x.work(0, 0, 12), BAD);
        Due.is("work(0, 0, 0)", x.work(0, 0, 0), FULL);
    }

    private static void roomBehindBack() {
        Due.sentence("(WORKS that came since go)");
        DrainedForAThird x = Twin.fullOfWorks();
        Due.is("no room", x.work(0, 0, 0), FULL);
        Due.is("back()", x.back(), 1);
        Due.is("there is room", x.work(3, 0, 0), 1);
    }

    private static void keeps() {
        Due.sentence("Refusals change nothing");
        int[][] wrong = {{-1, 0, 0}, {6, 0, 0}, {0, -1, 0}, {0, 10, 0}, {0, 0, -1}, {0, 0, 12}};
        for (int[] w : wrong) {
            Twin.keeps("work(" + w[0] + ", " + w[1] + ", " + w[2] + ")", x -> x.work(w[0], w[1], w[2]), BAD);
        }
        Twin.keeps("work(5, 5, 5), the seventh", Twin::fullOfWorks, x -> x.work(5, 5, 5), FULL);
    }
}
