/** Promise 13: idle. */
public final class Promise13IdleTest {
    private static final int NONE = -1;
    private static final int BAD = -2;

    public static void main(String[] args) {
        theFirstThatGoes();
        noFewer();
        needed();
        thoseThatDoNotGo();
        twoForOne();
        noWorks();
        noYears();
        harmful();
        howManyNotWhich();
        sixth();
        behindTheLastYear();
        yearsBounds();
        keeps();
        Due.end();
    }

    /** WORK 0 empties the one hollow that is full. */
    private static DrainedForAThird drained() {
        DrainedForAThird x = Due.falling();
        x.set(4, 3, 8);
        x.work(0, 8, 3);
        return x;
    }

    private static void theFirstThatGoes() {
        Due.sentence("the first WORK that goes without whose going no fewer would be DRY at last");
        DrainedForAThird x = drained();
        x.work(0, 0, 5);
        x.work(0, 9, 7);
        Due.is("the second and the third are idle", x.idle(1), 1);
        Due.is("it goes still", x.told(1, 7), 1);
    }

    private static void noFewer() {
        Due.sentence("no fewer would be DRY at last");
        DrainedForAThird x = drained();
        x.set(4, 3, 9);
        x.set(2, 3, 70);
        Due.is("too weak: as many without it", x.idle(1), 0);
        x.set(5, 0, 9);
        Due.is("one fewer without it", x.idle(1), NONE);
    }

    private static void needed() {
        Due.sentence("IDLE: the first WORK that goes ..; NONE");
        Due.is("each is needed", drained().idle(1), NONE);
        Due.is("each is needed in 30", drained().idle(30), NONE);
    }

    private static void thoseThatDoNotGo() {
        Due.sentence("the first WORK that goes");
        DrainedForAThird x = drained();
        x.work(0, 0, 5);
        x.work(0, 0, 6);
        x.set(7, 1, 0);
        Due.is("one that does not go is not asked", x.idle(1), 2);
        x.set(7, 2, 0);
        Due.is("none that goes is idle", x.idle(1), NONE);
        x.set(7, 0, 0);
        Due.is("none goes", x.idle(1), NONE);
    }

    private static void twoForOne() {
        Due.sentence("without whose going no fewer would be DRY at last");
        DrainedForAThird x = drained();
        x.work(0, 8, 3);
        Due.is("two for one water: the first", x.idle(1), 0);
        x.set(5, 0, 4);
        x.set(5, 1, 4);
        Due.is("both are needed in one year", x.idle(1), NONE);
        Due.is("in two one is enough", x.idle(2), 0);
    }

    private static void noWorks() {
        Due.sentence("IDLE. NONE.");
        DrainedForAThird x = new DrainedForAThird();
        Due.is("no WORKS", x.idle(5), NONE);
        Due.is("no WORKS, no YEARS", x.idle(0), NONE);
    }

    private static void noYears() {
        Due.sentence("n YEARS (0 .. 30)");
        DrainedForAThird x = drained();
        x.work(0, 8, 3);
        Due.is("no YEARS: the first that goes", x.idle(0), 0);
        x.set(7, 0, 0);
        Due.is("no YEARS: the next that goes", x.idle(0), 1);
        x.set(7, 1, 0);
        Due.is("no YEARS: none goes", x.idle(0), NONE);
    }

    private static void harmful() {
        Due.sentence("no fewer would be DRY at last");
        DrainedForAThird x = Due.banked();
        x.set(4, 9, 8);
        x.set(4, 4, 1);
        // Without the bank cell 5 is dry, and 4 is wet with it or without.
        Due.is("without it more are DRY", x.idle(1), 1);
    }

    private static void howManyNotWhich() {
        Due.sentence("no fewer would be DRY at last");
        DrainedForAThird x = Due.banked();
        x.set(4, 9, 8);
        Due.is("without it as many, but others", x.idle(1), 1);
    }

    private static void sixth() {
        Due.sentence("the first WORK that goes");
        DrainedForAThird x = drained();
        for (int w = 1; w < 5; w++) {
            x.work(0, 0, 5);
            x.set(7, w, 0);
        }
        x.work(0, 9, 11);
        Due.is("the last of six", x.idle(3), 5);
    }

    private static void behindTheLastYear() {
        Due.sentence("(there YEAR may pass 999)");
        DrainedForAThird x = drained();
        x.work(0, 0, 5);
        x.set(1, 0, 999);
        Due.is("from 999", x.idle(3), 1);
        Due.is("THE YEAR", x.count(3), 999);
    }

    private static void yearsBounds() {
        Due.sentence("IDLE. BAD");
        DrainedForAThird x = drained();
        x.work(0, 0, 0);
        int[] wrong = {-1, 31, Integer.MIN_VALUE, Integer.MAX_VALUE};
        for (int n : wrong) {
            Due.is("idle(" + n + ")", x.idle(n), BAD);
        }
        Due.is("idle(30)", x.idle(30), 1);
        Due.is("idle(31) without WORKS", new DrainedForAThird().idle(31), BAD);
    }

    private static void keeps() {
        Due.sentence("Refusals change nothing");
        Twin.keeps("idle(-1)", x -> x.idle(-1), BAD);
        Twin.keeps("idle(31)", x -> x.idle(31), BAD);
        Twin.keeps("idle(0), no refusal", x -> x.idle(0), 0);
    }
}
