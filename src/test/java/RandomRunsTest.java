import java.util.Random;

/** All promises: runs of calls by a fixed seed, each answer against that of the Model, at most 512 on one object. */
public final class RandomRunsTest {
    private static final int RUNS = 700;
    private static final int CALLS = 512;
    /** A text that fills THE TAPE, and what comes with it. */
    private static final int DEAREST_STEP = 170;
    private static final String[] TOKENS = {
        "(", ")", ";", "+", "-", "*", "<", "=", "or", "and", "not", "rains", "shrinks", "calls", "height", "peat", "year",
        "number", "water", "cell", "7", "0", "31", "9999", "12345", "wet", "?", " ", "\n", "Z", "\u00e9",
    };
    private static final String[] NAMES = {"height", "peat", "year", "number", "water", "cell"};
    private static int wrong = 0;
    private final Random random;
    private final DrainedForAThird x = new DrainedForAThird();
    private final Model m = new Model();
    private final StringBuilder calls = new StringBuilder();
    private int called = 0;

    private RandomRunsTest(long seed) {
        random = new Random(seed);
    }

    public static void main(String[] args) {
        for (int run = 0; run < RUNS && wrong < 5; run++) {
            new RandomRunsTest(run).go(run);
        }
        System.out.println(wrong == 0 ? RUNS + " runs are as due" : wrong + " runs are not as due");
        if (wrong != 0) {
            System.exit(1);
        }
    }

    private void go(int run) {
        boolean good = true;
        while (good && called < CALLS - DEAREST_STEP) {
            good = step();
        }
        if (!good) {
            wrong++;
            System.out.println("run " + run + ":" + calls);
        }
    }

    private boolean same(String call, long got, long due) {
        called++;
        calls.append("\n  ").append(call).append(" answered ").append(got);
        if (got != due) {
            calls.append(", due is ").append(due);
        }
        return got == due;
    }

    private int upTo(int n) {
        return random.nextInt(n);
    }

    /** Mostly 0 .. most, at times a little or far outside. */
    private int about(int most) {
        int dice = upTo(40);
        if (dice == 0) {
            return -1 - upTo(3);
        }
        if (dice == 1) {
            return most + 1 + upTo(3);
        }
        if (dice == 2) {
            return upTo(2) == 0 ? 0 : most;
        }
        return dice == 3 && upTo(5) == 0 ? random.nextInt() : upTo(most + 1);
    }

    private int years() {
        return upTo(3) == 0 ? about(30) : about(9);
    }

    private boolean step() {
        switch (upTo(27)) {
            case 0:
            case 1:
            case 2:
                return set();
            case 3: {
                int a = about(5);
                int b = about(9);
                int c = about(11);
                return same("work(" + a + ", " + b + ", " + c + ")", x.work(a, b, c), Model.answer(() -> m.work(a, b, c), 0));
            }
            case 4: {
                int a = upTo(2) == 0 ? about(11) : about(5);
                int b = about(10);
                return same("told(" + a + ", " + b + ")", x.told(a, b), Model.answer(() -> m.told(a, b), 0));
            }
            case 5:
                return text();
            case 6: {
                int a = about(m.texts.size() - 1);
                return same("force(" + a + ")", x.force(a), Model.answer(() -> m.force(a), 0));
            }
            case 7: {
                int a = about(1);
                int b = about(11);
                return same("asks(" + a + ", " + b + ")", x.asks(a, b), Model.answer(() -> m.asks(a, b), 0));
            }
            case 8:
            case 9:
                return same("year()", x.year(), Model.answer(m::year, 0));
            case 10:
            case 11: {
                int a = years();
                int b = upTo(2) == 0 ? about(4) : 100 * (1 + upTo(3)) + about(11);
                return same("run(" + a + ", " + b + ")", x.run(a, b), Model.answer(() -> m.run(a, b), 0));
            }
            case 12: {
                int a = years();
                int b = about(12);
                return same("first(" + a + ", " + b + ")", x.first(a, b), Model.answer(() -> m.first(a, b), 0));
            }
            default:
                return upTo(2) == 0 ? question() : host();
        }
    }

    private boolean set() {
        int a = about(7);
        int b = a >= 5 ? about(5) : about(11);
        int c = upTo(8) == 0 ? about(999) : about(a == 1 ? 999 : a == 4 ? 30 : a < 4 ? 99 : a == 5 ? 9 : a == 6 ? 11 : 1);
        return same("set(" + a + ", " + b + ", " + c + ")", x.set(a, b, c), Model.answer(() -> m.set(a, b, c), 0));
    }

    // ---- texts

    private boolean text() {
        String text = upTo(3) == 0 ? tokens() : proper();
        if (upTo(4) == 0) {
            text = harmed(text);
        }
        boolean good = true;
        for (int i = 0; i < text.length() && i < 162 && good; i++) {
            int letter = text.charAt(i);
            good = same("feed(" + letter + ")", x.feed(letter), Model.answer(() -> m.feed(letter), 0));
        }
        if (good && upTo(30) == 0) {
            int letter = about(255);
            good = same("feed(" + letter + ")", x.feed(letter), Model.answer(() -> m.feed(letter), 0));
        }
        return good && same("text() of " + text, x.text(), Model.answer(m::text, 0));
    }

    private String proper() {
        String blank = upTo(2) == 0 ? " " : "";
        String text = "rains " + e(0, 3) + blank + ";shrinks " + e(0, 3) + ";" + blank + "calls " + e(0, 3) + ";" + blank;
        return text.length() <= 160 || upTo(10) == 0 ? text : "rains " + e(0, 1) + ";shrinks 1;calls " + e(0, 1) + ";";
    }

    private String harmed(String text) {
        int at = upTo(text.length() + 1);
        String token = TOKENS[upTo(TOKENS.length)];
        int behind = Math.min(text.length(), at + upTo(4));
        return text.substring(0, at) + token + text.substring(behind);
    }

    private String tokens() {
        StringBuilder text = new StringBuilder("rains ");
        for (int i = upTo(14); i > 0; i--) {
            text.append(TOKENS[upTo(TOKENS.length)]);
            text.append(upTo(2) == 0 ? " " : "");
        }
        return text.toString();
    }

    /** Some E of a level: 0 or, 1 and, 2 not, 3 < and =, 4 + and -, 5 *, 6 ONE. */
    private String e(int level, int size) {
        if (level == 6) {
            return one(size);
        }
        if (level == 2) {
            return upTo(12) == 0 ? "not " + e(2, size - 1) : e(3, size);
        }
        String[][] signs = {{" or "}, {" and "}, {}, {"<", "="}, {"+", "-", " + "}, {"*"}};
        StringBuilder text = new StringBuilder(e(level + 1, size));
        int chance = level >= 4 ? 3 : 9;
        if (size > 0 && upTo(chance) == 0) {
            text.append(signs[level][upTo(signs[level].length)]).append(e(level + 1, size - 1));
        }
        return text.toString();
    }

    private String one(int size) {
        switch (upTo(8)) {
            case 0:
                return "-" + (size > -6 ? one(size - 1) : "1");
            case 1:
                return size > -3 ? "(" + e(0, size - 1) + ")" : "2";
            case 2:
            case 3:
            case 4:
                return NAMES[upTo(NAMES.length)];
            default:
                return Integer.toString(upTo(10) == 0 ? upTo(12000) : upTo(12));
        }
    }

    // ---- questions

    private boolean question() {
        switch (upTo(9)) {
            case 0: {
                int a = about(59);
                int b = years();
                int c = about(1);
                return same("where(" + a + ", " + b + ", " + c + ")", x.where(a, b, c), Model.answer(() -> m.where(a, b, c), 0));
            }
            case 1: {
                int a = years();
                return same("idle(" + a + ")", x.idle(a), Model.answer(() -> m.idle(a), 0));
            }
            case 2: {
                int a = years();
                int b = about(12);
                return same("low(" + a + ", " + b + ")", x.low(a, b), Model.answer(() -> m.low(a, b), 0));
            }
            case 3: {
                int a = about(5);
                int b = years();
                return same("floods(" + a + ", " + b + ")", x.floods(a, b), Model.answer(() -> m.floods(a, b), 0));
            }
            case 4: {
                int a = random.nextInt();
                int b = years();
                return same("drawn(" + a + ", " + b + ")", x.drawn(a, b), Model.answer(() -> m.drawn(a, b), 0));
            }
            case 5: {
                int a = upTo(9) == 0 ? Integer.MAX_VALUE - upTo(9) : random.nextInt();
                int b = about(20);
                int c = 100 * years() + about(12);
                int d = about(1);
                return same("chance(" + a + ", " + b + ", " + c + ", " + d + ")", x.chance(a, b, c, d),
                    Model.answer(() -> m.chance(a, b, c, d), DrainedForAThird.NO));
            }
            case 6: {
                int a = about(7);
                return same("count(" + a + ")", x.count(a), Model.answer(() -> m.counts(a), 0));
            }
            case 7:
                return upTo(3) == 0 ? same("image()", x.image(), Model.answer(m::image, 0))
                    : same("back()", x.back(), Model.answer(m::back, 0));
            default:
                return tells();
        }
    }

    private boolean tells() {
        int sheet = about(3);
        boolean good = true;
        if (upTo(2) == 0) {
            int n = years();
            good = same("film(" + sheet + ", " + n + ")", x.film(sheet, n), Model.answer(() -> m.film(sheet, n), 0));
            if (good && upTo(3) == 0) {
                good = set();
            }
        }
        int what = upTo(2) == 0 ? about(3) : 10 * (1 + upTo(3)) + about(5);
        return good && same("tells(" + sheet + ", " + what + ")", x.tells(sheet, what), Model.answer(() -> m.tells(sheet, what), 0));
    }

    private boolean host() {
        switch (upTo(6)) {
            case 0: {
                int a = about(3);
                int b = upTo(4) == 0 ? -1 : about(2);
                int c = about(40);
                return same("sheet(" + a + ", " + b + ", " + c + ")", x.sheet(a, b, c), Model.answer(() -> m.sheet(a, b, c), 0));
            }
            case 1: {
                int a = about(3);
                int b = about(12);
                int c = upTo(4) == 0 ? random.nextInt() : upTo(2) == 0 ? about(4095) : about(11);
                return same("cell(" + a + ", " + b + ", " + c + ")", x.cell(a, b, c), Model.answer(() -> m.cell(a, b, c), 0));
            }
            case 2: {
                int a = about(3);
                int b = about(9);
                int c = about(3);
                int d = about(9);
                int e = about(12);
                return same("copy(" + a + ", " + b + ", " + c + ", " + d + ", " + e + ")", x.copy(a, b, c, d, e),
                    Model.answer(() -> m.copy(a, b, c, d, e), 0));
            }
            case 3: {
                int a = about(3);
                int b = about(2);
                int c = about(9);
                int d = about(6);
                return same("works(" + a + ", " + b + ", " + c + ", " + d + ")", x.works(a, b, c, d),
                    Model.answer(() -> m.works(a, b, c, d), 0));
            }
            case 4: {
                int a = about(5);
                int b = about(5);
                return same("taken(" + a + ", " + b + ")", x.taken(a, b), Model.answer(() -> m.taken(a, b), 0));
            }
            default: {
                int a = about(7);
                return same("count(" + a + ")", x.count(a), Model.answer(() -> m.counts(a), 0));
            }
        }
    }
}
