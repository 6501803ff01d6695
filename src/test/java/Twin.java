import java.util.ArrayList;
import java.util.List;
import java.util.function.Supplier;

/** That a call changes nothing: beside a fen on which it is called stands one like it on which it is not. */
final class Twin {
    interface Call {
        long on(DrainedForAThird x);
    }

    private Twin() {
    }

    /** On a fen with something of all: works, texts, bytes on THE TAPE, sheets of each sort (3 is missing), an image. */
    static void keeps(String call, Call refused, long due) {
        keeps(call, Twin::full, refused, due);
    }

    static void keeps(String call, Supplier<DrainedForAThird> made, Call refused, long due) {
        DrainedForAThird x = made.get();
        Due.is(call, refused.on(x), due);
        List<String> got = all(x);
        List<String> want = all(made.get());
        for (int i = 0; i < want.size(); i++) {
            String otherwise = " changes nothing (" + got.get(i) + ", due is " + want.get(i) + ")";
            Due.holds(call + otherwise, got.get(i).equals(want.get(i)));
        }
    }

    static DrainedForAThird full() {
        DrainedForAThird x = new DrainedForAThird();
        x.work(1, 7, 10);
        x.set(0, 0, 21);
        x.image();
        x.work(2, 2, 7);
        x.work(4, 3, 2);
        x.work(5, 4, 0);
        x.set(7, 2, 0);
        Due.read(x, "rains cell+3;shrinks 1;calls number+1;");
        x.force(1);
        x.set(2, 4, 61);
        x.set(3, 5, 17);
        x.set(4, 6, 90);
        x.year();
        x.year();
        Due.feed(x, "rains 1;?");
        for (int s = 0; s < 3; s++) {
            x.sheet(s, s, 7 - s);
            for (int i = 0; i < 5; i++) {
                x.cell(s, i, (s + 2 * i) % 5);
            }
        }
        return x;
    }

    /** On one of these no WORK more has room; the image is of fewer. */
    static DrainedForAThird fullOfWorks() {
        DrainedForAThird x = full();
        x.work(0, 0, 11);
        x.work(3, 9, 11);
        return x;
    }

    /** All that an object can be asked for, in some 260 calls; it is another one behind it. */
    private static List<String> all(DrainedForAThird x) {
        List<String> told = new ArrayList<>();
        land(x, told);
        sheets(x, told);
        told.add("back " + x.back());
        land(x, told);
        items(x, told);
        texts(x, told);
        return told;
    }

    private static void land(DrainedForAThird x, List<String> told) {
        for (int what = 0; what <= 10; what++) {
            int all = what < 2 ? 1 : what < 5 ? 12 : 6;
            for (int of = 0; of < all && what != 9; of++) {
                told.add("told(" + of + ", " + what + ") " + x.told(of, what));
            }
        }
        for (int what = 0; what <= 7; what++) {
            told.add("count(" + what + ") " + x.count(what));
        }
        told.add("run(2, 0) " + x.run(2, 0));
        told.add("run(2, 1) " + x.run(2, 1));
    }

    private static void sheets(DrainedForAThird x, List<String> told) {
        for (int s = 0; s < 4; s++) {
            for (int sort = 0; sort < 3; sort++) {
                told.add("works(" + s + ", " + sort + ", 0, 0) " + x.works(s, sort, 0, 0));
            }
            for (int n = 0; n < 8; n++) {
                told.add("copy(" + s + ", 0, " + s + ", 0, " + n + ") " + x.copy(s, 0, s, 0, n));
            }
            told.add("tells(" + s + ", 0) " + x.tells(s, 0));
        }
    }

    private static void items(DrainedForAThird x, List<String> told) {
        x.image();
        for (int s = 0; s < 3; s++) {
            for (int from = 0; from < 6; from += 3) {
                String call = "works(" + s + ", " + s + ", " + from + ", 1) ";
                told.add(call + x.works(s, s, from, 1));
                int came = x.count(0) - 1;
                told.add(call + x.told(came, 8) + " " + x.told(came, 5) + " " + x.told(came, 6));
                x.back();
            }
        }
    }

    private static void texts(DrainedForAThird x, List<String> told) {
        told.add("text() " + x.text());
        for (int t = 0; t < 6; t++) {
            told.add("force(" + t + ") " + x.force(t));
            told.add("asks(0, 3) " + x.asks(0, 3));
            told.add("asks(1, 3) " + x.asks(1, 3));
        }
    }
}
