/** Promise 20: image. */
public final class Promise20ImageTest {
    public static void main(String[] args) {
        howMany();
        keepsAll();
        anotherInItsPlace();
        ofNoWorks();
        ofSix();
        changesNothing();
        ofItsOwn();
        Due.end();
    }

    private static void howMany() {
        Due.sentence("AN IMAGE is kept: how many WORKS");
        DrainedForAThird x = new DrainedForAThird();
        for (int w = 0; w <= 6; w++) {
            Due.is("image() of " + w, x.image(), w);
            x.work(0, 0, 0);
        }
        x.set(7, 2, 0);
        Due.is("one that does not go is one of them", x.image(), 6);
    }

    private static void keepsAll() {
        Due.sentence("AN IMAGE keeps HEIGHTS, PEAT, WATER, RIVER, THE YEAR, PAID, NUMBERS, CELLS, going of WORKS, THE RULE");
        DrainedForAThird x = Due.ruled("rains 1;shrinks 1;calls 8;");
        for (int w = 0; w < 6; w++) {
            x.work(w, w + 2, 2 * w);
        }
        x.set(7, 3, 0);
        x.set(0, 0, 50);
        x.set(1, 0, 17);
        for (int c = 0; c < 12; c++) {
            x.set(2, c, 30 + c);
            x.set(3, c, 20 + c);
            x.set(4, c, 10 + c);
        }
        x.year();
        int[] paid = {x.count(4), x.count(3), x.told(0, 0)};
        int[][] cells = new int[12][3];
        for (int c = 0; c < 12; c++) {
            for (int what = 2; what <= 4; what++) {
                cells[c][what - 2] = x.told(c, what);
            }
        }
        x.image();
        x.force(0);
        x.set(0, 0, 3);
        x.set(1, 0, 500);
        for (int c = 0; c < 12; c++) {
            x.set(2, c, 99);
            x.set(3, c, 98);
            x.set(4, c, 97);
        }
        for (int w = 0; w < 6; w++) {
            x.set(5, w, 0);
            x.set(6, w, 11 - w);
            x.set(7, w, w == 3 ? 1 : 0);
        }
        x.year();
        x.set(7, 0, 1);
        x.year();
        x.back();
        Due.is("PAID", x.count(4), paid[0]);
        Due.is("THE YEAR", x.count(3), paid[1]);
        Due.is("RIVER", x.told(0, 0), paid[2]);
        Due.is("THE RULE", x.count(7), 1);
        for (int c = 0; c < 12; c++) {
            Due.is("HEIGHT of " + c, x.told(c, 2), cells[c][0]);
            Due.is("PEAT of " + c, x.told(c, 3), cells[c][1]);
            Due.is("WATER of " + c, x.told(c, 4), cells[c][2]);
        }
        for (int w = 0; w < 6; w++) {
            Due.is("NUMBER of " + w, x.told(w, 5), w + 2);
            Due.is("CELL of " + w, x.told(w, 6), 2 * w);
            Due.is("going of " + w, x.told(w, 7), w == 3 ? 0 : 1);
            Due.is("KIND of " + w, x.told(w, 8), w);
        }
    }

    private static void anotherInItsPlace() {
        Due.sentence("AN IMAGE is kept");
        DrainedForAThird x = new DrainedForAThird();
        x.image();
        x.set(0, 0, 3);
        x.work(0, 0, 0);
        x.image();
        x.set(0, 0, 4);
        Due.is("back()", x.back(), 1);
        Due.is("RIVER of the last one", x.told(0, 0), 3);
    }

    private static void ofNoWorks() {
        Due.sentence("AN IMAGE is kept: how many WORKS (0)");
        DrainedForAThird x = new DrainedForAThird();
        Due.is("image()", x.image(), 0);
        for (int w = 0; w < 6; w++) {
            x.work(0, 0, 0);
        }
        Due.is("back()", x.back(), 0);
        Due.is("WORKS", x.count(0), 0);
        Due.is("WORK 0", x.told(0, 5), -2);
    }

    private static void ofSix() {
        Due.sentence("AN IMAGE is kept: how many WORKS (6 at most)");
        DrainedForAThird x = Twin.fullOfWorks();
        Due.is("image()", x.image(), 6);
        x.year();
        Due.is("back()", x.back(), 6);
        Due.is("a seventh still has no room", x.work(0, 0, 0), -4);
    }

    private static void changesNothing() {
        Due.sentence("AN IMAGE is kept");
        DrainedForAThird x = Twin.full();
        DrainedForAThird y = Twin.full();
        x.image();
        for (int what = 0; what <= 7; what++) {
            Due.is("count(" + what + ")", x.count(what), y.count(what));
        }
        for (int c = 0; c < 12; c++) {
            for (int what = 0; what <= 10; what++) {
                Due.is("told(" + c + ", " + what + ")", x.told(c, what), y.told(c, what));
            }
        }
        Due.is("run(9, 0)", x.run(9, 0), y.run(9, 0));
    }

    private static void ofItsOwn() {
        Due.sentence("AN IMAGE is kept");
        DrainedForAThird x = new DrainedForAThird();
        x.image();
        x.year();
        x.set(0, 0, 9);
        x.run(5, 0);
        x.low(3, 4);
        x.drawn(4, 5);
        x.film(0, 3);
        x.tells(0, 2);
        Due.is("THE YEAR is no thought's", x.count(3), 1);
        x.back();
        Due.is("RIVER", x.told(0, 0), 35);
        Due.is("THE YEAR", x.count(3), 0);
        Due.is("WATER", x.told(11, 4), 5);
    }
}
