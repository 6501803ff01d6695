import java.util.List;
import java.util.function.Supplier;

/** Years in thought leave nothing behind: each question is answered as by a fen that was asked no other one before. */
public final class AskedBeforeTest {
    interface Question {
        long on(DrainedForAThird x);
    }

    private record Asked(String name, Question question) {
    }

    private static final List<Asked> ALL = List.of(
        new Asked("run(30, 0)", x -> x.run(30, 0)), new Asked("run(2, 0)", x -> x.run(2, 0)),
        new Asked("run(30, 1)", x -> x.run(30, 1)), new Asked("run(3, 1)", x -> x.run(3, 1)),
        new Asked("run(30, 2)", x -> x.run(30, 2)), new Asked("run(2, 2)", x -> x.run(2, 2)),
        new Asked("run(30, 3)", x -> x.run(30, 3)), new Asked("run(2, 3)", x -> x.run(2, 3)),
        new Asked("run(30, 4)", x -> x.run(30, 4)), new Asked("run(2, 4)", x -> x.run(2, 4)),
        new Asked("run(0, 2)", x -> x.run(0, 2)), new Asked("run(0, 4)", x -> x.run(0, 4)),
        new Asked("run(3, 105)", x -> x.run(3, 105)), new Asked("run(3, 205)", x -> x.run(3, 205)),
        new Asked("run(3, 305)", x -> x.run(3, 305)), new Asked("run(0, 305)", x -> x.run(0, 305)),
        new Asked("first(30, 11)", x -> x.first(30, 11)), new Asked("first(2, 11)", x -> x.first(2, 11)),
        new Asked("first(30, 12)", x -> x.first(30, 12)), new Asked("first(2, 12)", x -> x.first(2, 12)),
        new Asked("where(49, 5, 0)", x -> x.where(49, 5, 0)), new Asked("where(13, 2, 1)", x -> x.where(13, 2, 1)),
        new Asked("idle(6)", x -> x.idle(6)), new Asked("idle(1)", x -> x.idle(1)),
        new Asked("low(3, 12)", x -> x.low(3, 12)), new Asked("low(7, 3)", x -> x.low(7, 3)),
        new Asked("floods(0, 4)", x -> x.floods(0, 4)), new Asked("floods(1, 2)", x -> x.floods(1, 2)),
        new Asked("film(3, 20)", x -> x.film(3, 20)), new Asked("film(3, 2)", x -> x.film(3, 2)),
        new Asked("tells(0, 0)", x -> x.tells(0, 0)), new Asked("tells(0, 1)", x -> x.tells(0, 1)),
        new Asked("tells(0, 2)", x -> x.tells(0, 2)), new Asked("tells(0, 3)", x -> x.tells(0, 3)),
        new Asked("tells(0, 10)", x -> x.tells(0, 10)), new Asked("tells(0, 20)", x -> x.tells(0, 20)),
        new Asked("tells(0, 30)", x -> x.tells(0, 30)), new Asked("drawn(7, 9)", x -> x.drawn(7, 9)),
        new Asked("drawn(-7, 1)", x -> x.drawn(-7, 1)), new Asked("chance(3, 9, 305, 0)", x -> x.chance(3, 9, 305, 0)),
        new Asked("asks(0, 5)", x -> x.asks(0, 5)), new Asked("asks(1, 5)", x -> x.asks(1, 5)),
        new Asked("told(0, 9)", x -> x.told(0, 9)), new Asked("told(0, 10)", x -> x.told(0, 10)),
        new Asked("count(2)", x -> x.count(2)), new Asked("count(4)", x -> x.count(4)),
        new Asked("taken(0, 0)", x -> x.taken(0, 0)), new Asked("image()", x -> x.image()));

    public static void main(String[] args) {
        Due.sentence("n YEARS (0 .. 30), in thought");
        everyPair("emptied", Due::emptied);
        everyPair("banked", Due::banked);
        everyPair("wetThenDry", Due::wetThenDry);
        everyPair("full", Twin::full);
        Due.end();
    }

    private static void everyPair(String name, Supplier<DrainedForAThird> made) {
        for (Asked asked : ALL) {
            long alone = asked.question().on(filmed(made));
            for (Asked before : ALL) {
                DrainedForAThird x = filmed(made);
                before.question().on(x);
                Due.is(name + ": " + asked.name() + " behind " + before.name(), asked.question().on(x), alone);
            }
        }
    }

    /** SHEET 0 tells four YEARS of it, so that what is told is answered by more than nothing. */
    private static DrainedForAThird filmed(Supplier<DrainedForAThird> made) {
        DrainedForAThird x = made.get();
        x.film(0, 4);
        return x;
    }
}
