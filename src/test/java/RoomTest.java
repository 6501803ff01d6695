import com.sun.management.ThreadMXBean;
import java.lang.management.ManagementFactory;

/** That all calls of a run find room: an object is small, and of 512 calls only those that read texts make anything. */
public final class RoomTest {
    private static final int CALLS = 512;
    private static final int OBJECT = 16_000;
    private static final int NOISE = 8_000;
    private static final ThreadMXBean THREADS = (ThreadMXBean) ManagementFactory.getThreadMXBean();
    /** Answers are put here, so that no call is left out for want of use. */
    private static long answers = 0;

    interface Call {
        long on(DrainedForAThird x);
    }

    public static void main(String[] args) {
        Due.sentence("All calls of one run live in ONE room");
        object();
        makesNothing("set", x -> x.set(2, 3, 4));
        makesNothing("work", x -> x.work(1, 2, 3));
        makesNothing("told", x -> x.told(0, 10));
        makesNothing("feed", x -> x.feed(32));
        makesNothing("force", x -> x.force(1));
        makesNothing("asks", x -> x.asks(1, 11));
        makesNothing("year", x -> x.year());
        makesNothing("run", x -> x.run(30, 4));
        makesNothing("first", x -> x.first(30, 12));
        makesNothing("where", x -> x.where(49, 30, 0));
        makesNothing("idle", x -> x.idle(30));
        makesNothing("low", x -> x.low(30, 12));
        makesNothing("floods", x -> x.floods(3, 30));
        makesNothing("tells RIVERS", x -> x.tells(3, 2));
        makesNothing("tells CELLS", x -> x.tells(3, 30));
        makesNothing("film", x -> x.film(3, 30));
        makesNothing("drawn", x -> x.drawn(7, 30));
        makesNothing("chance", x -> x.chance(7, 20, 3003, 0));
        makesNothing("image", x -> x.image());
        makesNothing("back", x -> x.back());
        makesNothing("count", x -> x.count(2));
        makesNothing("sheet", x -> x.sheet(0, 2, 40));
        makesNothing("cell", x -> x.cell(0, 1, 9));
        makesNothing("copy", x -> x.copy(0, 0, 0, 1, 4));
        makesNothing("works", x -> x.works(0, 0, 0, 1));
        makesNothing("taken", x -> x.taken(3, 0));
        texts();
        Due.end();
    }

    private static long bytes() {
        return THREADS.getThreadAllocatedBytes(Thread.currentThread().getId());
    }

    private static void object() {
        answers += new DrainedForAThird().count(5);
        long before = bytes();
        answers += new DrainedForAThird().count(5);
        long made = bytes() - before;
        Due.holds("an object of " + made + " bytes is small", made < OBJECT);
    }

    private static long made(Call call) {
        DrainedForAThird x = Twin.full();
        x.film(3, 30);
        answers += call.on(Twin.full());
        long before = bytes();
        for (int i = 0; i < CALLS; i++) {
            answers += call.on(x);
        }
        return bytes() - before;
    }

    private static void makesNothing(String name, Call call) {
        long made = made(call);
        Due.holds(name + " makes nothing, but made " + made + " bytes in " + CALLS + " calls", made < NOISE);
    }

    private static void texts() {
        long made = made(x -> x.text());
        Due.holds("text makes three rows at most, but made " + made + " bytes in " + CALLS + " calls", made < CALLS * 200);
    }
}
