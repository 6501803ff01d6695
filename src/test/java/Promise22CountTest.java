/** Promise 22: count. */
public final class Promise22CountTest {
    private static final int BAD = -2;

    public static void main(String[] args) {
        works();
        worksThatGo();
        dry();
        theYear();
        paid();
        texts();
        tape();
        theRule();
        whatBounds();
        keeps();
        Due.end();
    }

    private static void works() {
        Due.sentence("How many: 0 WORKS");
        DrainedForAThird x = new DrainedForAThird();
        for (int w = 0; w < 6; w++) {
            Due.is("count(0)", x.count(0), w);
            x.work(0, 1, 2);
        }
        Due.is("count(0) of six", x.count(0), 6);
        x.work(0, 1, 2);
        Due.is("count(0) behind a seventh", x.count(0), 6);
    }

    private static void worksThatGo() {
        Due.sentence("How many: 1 that go");
        DrainedForAThird x = new DrainedForAThird();
        Due.is("of none", x.count(1), 0);
        for (int w = 0; w < 6; w++) {
            x.work(w, 1, 2);
        }
        for (int w = 0; w < 6; w++) {
            Due.is("count(1)", x.count(1), 6 - w);
            x.set(7, w, 0);
        }
        Due.is("none goes", x.count(1), 0);
        Due.is("WORKS", x.count(0), 6);
        x.set(7, 5, 1);
        Due.is("the last one goes", x.count(1), 1);
    }

    private static void dry() {
        Due.sentence("How many: 2 CELLS that are DRY");
        DrainedForAThird x = new DrainedForAThird();
        for (int c = 0; c < 12; c++) {
            Due.is("count(2)", x.count(2), c);
            x.set(4, c, 0);
        }
        Due.is("all of them", x.count(2), 12);
        x.set(4, 11, 1);
        Due.is("all but the last", x.count(2), 11);
    }

    private static void theYear() {
        Due.sentence("How many: 3 THE YEAR");
        DrainedForAThird x = new DrainedForAThird();
        for (int year = 0; year < 4; year++) {
            Due.is("count(3)", x.count(3), year);
            x.year();
        }
        x.set(1, 0, 999);
        Due.is("count(3) at the end", x.count(3), 999);
    }

    private static void paid() {
        Due.sentence("How many: 4 PAID");
        DrainedForAThird x = Due.ruled("rains 0;shrinks 0;calls 99;");
        for (int w = 0; w < 6; w++) {
            x.work(4, 9, w);
        }
        for (int year = 0; year < 400; year++) {
            x.year();
        }
        Due.is("count(4) behind 400 YEARS", x.count(4), 400 * 6 * 207);
    }

    private static void texts() {
        Due.sentence("How many: 5 TEXTS");
        DrainedForAThird x = new DrainedForAThird();
        for (int t = 1; t <= 6; t++) {
            Due.is("count(5)", x.count(5), t);
            Due.read(x, "rains 1;shrinks 1;calls 1;");
        }
        Due.is("count(5) behind a seventh", x.count(5), 6);
    }

    private static void tape() {
        Due.sentence("How many: 6 bytes of THE TAPE");
        DrainedForAThird x = new DrainedForAThird();
        for (int i = 0; i < 160; i++) {
            Due.is("count(6)", x.count(6), i);
            x.feed(32);
        }
        Due.is("count(6) of all", x.count(6), 160);
        x.feed(32);
        Due.is("count(6) behind one too many", x.count(6), 160);
        x.text();
        Due.is("count(6) behind text()", x.count(6), 0);
    }

    private static void theRule() {
        Due.sentence("How many: 7 THE RULE");
        DrainedForAThird x = new DrainedForAThird();
        Due.is("count(7)", x.count(7), 0);
        for (int t = 1; t <= 5; t++) {
            Due.read(x, "rains 1;shrinks 1;calls 1;");
            x.force(t);
            Due.is("count(7)", x.count(7), t);
        }
    }

    private static void whatBounds() {
        Due.sentence("count: BAD");
        DrainedForAThird x = Twin.full();
        int[] wrong = {-1, 8, 9, 100, Integer.MIN_VALUE, Integer.MAX_VALUE};
        for (int what : wrong) {
            Due.is("count(" + what + ")", x.count(what), BAD);
        }
        Due.is("count(7)", x.count(7), 1);
        Due.is("count(0)", x.count(0), 4);
    }

    private static void keeps() {
        Due.sentence("Refusals change nothing");
        Twin.keeps("count(-1)", x -> x.count(-1), BAD);
        Twin.keeps("count(8)", x -> x.count(8), BAD);
        Twin.keeps("count(1), no refusal", x -> x.count(1), 3);
    }
}
