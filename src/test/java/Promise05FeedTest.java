/** Promise 5: feed. */
public final class Promise05FeedTest {
    private static final int BAD = -2;
    private static final int FULL = -4;
    private static final int TAPE = 160;

    public static void main(String[] args) {
        howMany();
        byteBounds();
        atMost();
        badAheadOfFull();
        anewBehindText();
        allBytesAreRead();
        keeps();
        Due.end();
    }

    private static void howMany() {
        Due.sentence("A byte comes behind THE TAPE: how many it has");
        DrainedForAThird x = new DrainedForAThird();
        for (int i = 1; i <= 9; i++) {
            Due.is("feed(" + i + ")", x.feed(i), i);
            Due.is("count(6)", x.count(6), i);
        }
        DrainedForAThird y = new DrainedForAThird();
        String text = "rains 61;shrinks 2;calls 3;";
        Due.is("the last byte", Due.feed(y, text), text.length());
        y.force(y.text());
        Due.is("each came behind the others", y.asks(0, 0), 61);
    }

    private static void byteBounds() {
        Due.sentence("A byte (0 .. 255). BAD");
        DrainedForAThird x = new DrainedForAThird();
        int[] wrong = {-1, 256, -128, -256, 65536 + 32, Integer.MIN_VALUE, Integer.MAX_VALUE};
        for (int letter : wrong) {
            Due.is("feed(" + letter + ")", x.feed(letter), BAD);
            Due.is("count(6)", x.count(6), 0);
        }
        Due.is("feed(0)", x.feed(0), 1);
        Due.is("feed(255)", x.feed(255), 2);
        Due.is("feed(128)", x.feed(128), 3);
        Due.is("feed(-1)", x.feed(-1), BAD);
        Due.is("feed(256)", x.feed(256), BAD);
        Due.is("count(6)", x.count(6), 3);
    }

    private static DrainedForAThird fullTape() {
        DrainedForAThird x = new DrainedForAThird();
        Due.feed(x, "rains 7;shrinks 1;calls 1;");
        for (int i = x.count(6); i < TAPE; i++) {
            x.feed(32);
        }
        return x;
    }

    private static void atMost() {
        Due.sentence("THE TAPE (160 bytes at most). FULL");
        DrainedForAThird x = new DrainedForAThird();
        for (int i = 1; i <= TAPE; i++) {
            Due.is("feed " + i, x.feed(i % 256), i);
        }
        Due.is("feed 161", x.feed(32), FULL);
        Due.is("feed 161 again", x.feed(0), FULL);
        Due.is("count(6)", x.count(6), TAPE);
    }

    private static void badAheadOfFull() {
        Due.sentence("BAD; FULL. (the first that the call's words name)");
        DrainedForAThird x = fullTape();
        Due.is("feed(256)", x.feed(256), BAD);
        Due.is("feed(-1)", x.feed(-1), BAD);
        Due.is("feed(255)", x.feed(255), FULL);
    }

    private static void anewBehindText() {
        Due.sentence("THE TAPE, which is empty then (by a FAULT, too)");
        DrainedForAThird x = fullTape();
        Due.is("full", x.feed(32), FULL);
        Due.is("text()", x.text(), 1);
        Due.is("feed behind it", x.feed(32), 1);
        Due.is("text() by a FAULT", x.text(), -101);
        Due.is("feed behind that", x.feed(32), 1);
    }

    private static void allBytesAreRead() {
        Due.sentence("THE TAPE (160 bytes at most)");
        DrainedForAThird x = new DrainedForAThird();
        StringBuilder text = new StringBuilder("rains 7;shrinks 1;calls 0");
        while (text.length() < TAPE - 3) {
            text.append("+1");
        }
        text.append(" 8;");
        Due.is("size", text.length(), TAPE);
        Due.is("the last but one byte can't stand there", Due.read(x, text.toString()), -100 - (TAPE - 2));
        text.setCharAt(TAPE - 2, '\n');
        text.setCharAt(TAPE - 3, ' ');
        Due.is("the last byte ends it", Due.read(x, text.toString()), 1);
        text.setCharAt(TAPE - 1, ' ');
        Due.is("it ends too early", Due.read(x, text.toString()), -100 - TAPE);
    }

    private static void keeps() {
        Due.sentence("Refusals change nothing");
        Twin.keeps("feed(-1)", x -> x.feed(-1), BAD);
        Twin.keeps("feed(256)", x -> x.feed(256), BAD);
        Twin.keeps("feed(57) on a full TAPE", Promise05FeedTest::fullTape, x -> x.feed(57), FULL);
    }
}
