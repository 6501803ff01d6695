/** Promise 27: taken. */
public final class Promise27TakenTest {
    private static final int BAD = -2;
    private static final int NOTHING = -11;
    private static final int UNLIKE = -13;
    private static final int LOWEST = Integer.MIN_VALUE;
    private static final int HIGHEST = Integer.MAX_VALUE;

    public static void main(String[] args) {
        ofItsOwnKind();
        underThatOne();
        byOthersBetween();
        anotherKind();
        itsNumberNow();
        kindBounds();
        noSuchWork();
        inThisOrder();
        keeps();
        Due.end();
    }

    /** A WORK of each KIND, by numbers, of NUMBER 9 and less. */
    private static DrainedForAThird ofAll() {
        DrainedForAThird x = new DrainedForAThird();
        for (int kind = 0; kind < 6; kind++) {
            x.work(kind, 9 - kind, 0);
        }
        return x;
    }

    private static void ofItsOwnKind() {
        Due.sentence("A WORK taken for one of KIND k (0 .. 5): its NUMBER");
        DrainedForAThird x = ofAll();
        for (int kind = 0; kind < 6; kind++) {
            Due.is("taken(" + kind + ", " + kind + ")", x.taken(kind, kind), 9 - kind);
        }
    }

    private static void underThatOne() {
        Due.sentence("0 WORK, 1 CUT under WORK, 2 MILL under WORK, 3 SLUICE under CUT, 4 TALL under MILL, 5 BANK under WORK");
        DrainedForAThird x = ofAll();
        Due.is("a CUT for a WORK", x.taken(1, 0), 8);
        Due.is("a MILL for a WORK", x.taken(2, 0), 7);
        Due.is("a SLUICE for a CUT", x.taken(3, 1), 6);
        Due.is("a TALL for a MILL", x.taken(4, 2), 5);
        Due.is("a BANK for a WORK", x.taken(5, 0), 4);
    }

    private static void byOthersBetween() {
        Due.sentence("(also by others between)");
        DrainedForAThird x = ofAll();
        Due.is("a SLUICE for a WORK", x.taken(3, 0), 6);
        Due.is("a TALL for a WORK", x.taken(4, 0), 5);
    }

    private static void anotherKind() {
        Due.sentence("-13 a thing of another KIND");
        DrainedForAThird x = ofAll();
        // KIND by KIND, whether it is one of KIND 0 .. 5 or under that one.
        String[] under = {"100000", "110000", "101000", "110100", "101010", "100001"};
        for (int kind = 0; kind < 6; kind++) {
            for (int k = 0; k < 6; k++) {
                if (under[kind].charAt(k) == '0') {
                    Due.is("taken(" + kind + ", " + k + ")", x.taken(kind, k), UNLIKE);
                }
            }
        }
    }

    private static void itsNumberNow() {
        Due.sentence("its NUMBER (0 .. 9)");
        DrainedForAThird x = ofAll();
        x.set(7, 3, 0);
        x.set(5, 3, 0);
        Due.is("a NUMBER of 0, though it does not go", x.taken(3, 1), 0);
        x.set(5, 3, 9);
        Due.is("a NUMBER of 9", x.taken(3, 0), 9);
    }

    private static void kindBounds() {
        Due.sentence("taken: BAD: k (0 .. 5)");
        DrainedForAThird x = ofAll();
        int[] wrong = {-1, 6, 7, LOWEST, HIGHEST};
        for (int k : wrong) {
            for (int w = 0; w < 6; w++) {
                Due.is("taken(" + w + ", " + k + ")", x.taken(w, k), BAD);
            }
        }
    }

    private static void noSuchWork() {
        Due.sentence("-11: no such WORK");
        DrainedForAThird x = new DrainedForAThird();
        for (int works = 0; works <= 6; works++) {
            int[] wrong = {-1, works, 6, 7, LOWEST, HIGHEST};
            for (int work : wrong) {
                Due.is("of " + works + " taken(" + work + ", 0)", x.taken(work, 0), NOTHING);
                Due.is("of " + works + " taken(" + work + ", 5)", x.taken(work, 5), NOTHING);
            }
            x.work(5, works, 0);
        }
        DrainedForAThird y = new DrainedForAThird();
        y.image();
        y.work(0, 7, 0);
        y.back();
        Due.is("one that is gone", y.taken(0, 0), NOTHING);
    }

    private static void inThisOrder() {
        Due.sentence("BAD: k; -11: no such WORK; -13 (the first that the call's words name)");
        DrainedForAThird x = new DrainedForAThird();
        x.work(0, 0, 0);
        Due.is("k 6, no such WORK", x.taken(1, 6), BAD);
        Due.is("k -1, no such WORK", x.taken(-1, -1), BAD);
        Due.is("no such WORK", x.taken(1, 5), NOTHING);
        Due.is("another KIND", x.taken(0, 5), UNLIKE);
        Due.is("its NUMBER", x.taken(0, 0), 0);
    }

    private static void keeps() {
        Due.sentence("Refusals change nothing");
        Twin.keeps("taken(0, -1)", x -> x.taken(0, -1), BAD);
        Twin.keeps("taken(0, 6)", x -> x.taken(0, 6), BAD);
        Twin.keeps("taken(4, 0)", x -> x.taken(4, 0), NOTHING);
        Twin.keeps("taken(0, 5)", x -> x.taken(0, 5), UNLIKE);
        Twin.keeps("taken(3, 0), no refusal", x -> x.taken(3, 0), 4);
    }
}
