/** Promise 7: force. */
public final class Promise07ForceTest {
    private static final int BAD = -2;
    private static final int LOWEST = Integer.MIN_VALUE;
    private static final int HIGHEST = Integer.MAX_VALUE;

    public static void main(String[] args) {
        whichWas();
        noSuchText();
        noneByFault();
        keeps();
        Due.end();
    }

    private static void whichWas() {
        Due.sentence("A TEXT is THE RULE: which was");
        DrainedForAThird x = new DrainedForAThird();
        Due.is("force(0), which is", x.force(0), 0);
        for (int t = 1; t <= 5; t++) {
            Due.read(x, "rains 1" + t + ";shrinks 0;calls 1;");
            Due.is("THE RULE, as a TEXT comes", x.count(7), t - 1);
            Due.is("force(" + t + ")", x.force(t), t - 1);
            Due.is("THE RULE", x.count(7), t);
            Due.is("rains", x.asks(0, 4), 10 + t);
        }
        Due.is("force(0)", x.force(0), 5);
        Due.is("rains by TEXT 0", x.asks(0, 4), 6);
        Due.is("force(3)", x.force(3), 0);
        Due.is("force(3), which is", x.force(3), 3);
        Due.is("rains by TEXT 3", x.asks(0, 4), 13);
    }

    private static void noSuchText() {
        Due.sentence("A TEXT is THE RULE. BAD.");
        DrainedForAThird x = new DrainedForAThird();
        for (int texts = 1; texts <= 6; texts++) {
            int[] wrong = {-1, texts, 6, 7, LOWEST, HIGHEST};
            for (int text : wrong) {
                Due.is("of " + texts + " force(" + text + ")", x.force(text), BAD);
            }
            Due.is("of " + texts + ", the last", x.force(texts - 1), texts < 3 ? 0 : texts - 2);
            Due.read(x, "rains 1;shrinks 0;calls 1;");
        }
    }

    private static void noneByFault() {
        Due.sentence("THE TAPE is a TEXT: its number; -100 less the place of its FAULT");
        DrainedForAThird x = new DrainedForAThird();
        Due.is("text by a FAULT", Due.read(x, "rains 1;shrinks 0;calls 1"), -125);
        Due.is("force(1)", x.force(1), BAD);
    }

    private static void keeps() {
        Due.sentence("Refusals change nothing");
        Twin.keeps("force(-1)", x -> x.force(-1), BAD);
        Twin.keeps("force(2)", x -> x.force(2), BAD);
        Twin.keeps("force(6)", x -> x.force(6), BAD);
    }
}
