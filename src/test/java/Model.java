import java.util.ArrayDeque;
import java.util.ArrayList;
import java.util.Deque;
import java.util.List;
import java.util.Map;
import java.util.function.Consumer;
import java.util.function.IntPredicate;

/** The document once more, told in other ways than the program does: works are objects, texts trees, refusals thrown. */
final class Model {
    static final class Refused extends RuntimeException {
        private static final long serialVersionUID = 1;
        final int answer;

        Refused(int answer) {
            this.answer = answer;
        }
    }

    interface Call {
        long answer();
    }

    static long answer(Call call, long instead) {
        try {
            return call.answer();
        } catch (Refused r) {
            return instead == 0 ? r.answer : instead;
        }
    }

    static void check(boolean good, int otherwise) {
        if (!good) {
            throw new Refused(otherwise);
        }
    }

    // ---- works

    static class Work {
        int number;
        int on;
        boolean goes = true;

        int draws(Land l, int c) {
            return number;
        }

        boolean spreads() {
            return false;
        }

        boolean holds() {
            return false;
        }

        int costs(int v) {
            return v;
        }
    }

    static class Cut extends Work {
        @Override
        int draws(Land l, int c) {
            int all = super.draws(l, c);
            return l.height[c] > l.river ? all + l.water[c] / 2 : all;
        }

        @Override
        boolean spreads() {
            return true;
        }

        @Override
        int costs(int v) {
            return super.costs(v) / 2;
        }
    }

    static class Mill extends Work {
        @Override
        int draws(Land l, int c) {
            return super.draws(l, c) + 5;
        }

        @Override
        int costs(int v) {
            return super.costs(v) * 2;
        }
    }

    static final class Sluice extends Cut {
        @Override
        int draws(Land l, int c) {
            return Math.floorMod(l.year, 3) == 2 ? 0 : super.draws(l, c);
        }

        @Override
        boolean spreads() {
            return false;
        }

        @Override
        int costs(int v) {
            return super.costs(v) + number;
        }
    }

    static final class Tall extends Mill {
        @Override
        int draws(Land l, int c) {
            return super.draws(l, c) + super.draws(l, c);
        }

        @Override
        boolean spreads() {
            return true;
        }

        @Override
        int costs(int v) {
            return super.costs(v) + number;
        }
    }

    static final class Bank extends Work {
        @Override
        int draws(Land l, int c) {
            return 0;
        }

        @Override
        boolean holds() {
            return true;
        }
    }

    private static final List<Class<? extends Work>> KINDS =
        List.of(Work.class, Cut.class, Mill.class, Sluice.class, Tall.class, Bank.class);

    static Work made(int kind, int number, int on) {
        check(kind >= 0 && kind <= 5 && number >= 0 && number <= 9 && on >= 0 && on <= 11, -2);
        Work w = switch (kind) {
            case 0 -> new Work();
            case 1 -> new Cut();
            case 2 -> new Mill();
            case 3 -> new Sluice();
            case 4 -> new Tall();
            default -> new Bank();
        };
        w.number = number;
        w.on = on;
        return w;
    }

    static int kindOf(Work w) {
        return KINDS.indexOf(w.getClass());
    }

    static Work again(Work w, int kind) {
        Work again = made(kind, w.number, w.on);
        again.goes = w.goes;
        return again;
    }

    // ---- the land

    final class Land {
        int[] height = new int[12];
        int[] peat = new int[12];
        int[] water = new int[12];
        int river = 35;
        int year = 0;
        long paid = 0;
        int rule = 0;
        List<Work> works = new ArrayList<>();

        Land copy() {
            Land l = new Land();
            l.height = height.clone();
            l.peat = peat.clone();
            l.water = water.clone();
            l.river = river;
            l.year = year;
            l.paid = paid;
            l.rule = rule;
            for (Work w : works) {
                l.works.add(again(w, kindOf(w)));
            }
            return l;
        }

        int says(int part, int c, Work of) {
            int number = of == null ? (int) works.stream().filter(w -> w.on == c).count() : of.number;
            int v = texts.get(rule).get(part).value(Map.of("height", height[c], "peat", peat[c], "year", year,
                "number", number, "water", water[c], "cell", c));
            return Math.max(0, Math.min(part == 1 ? 20 : 99, v));
        }

        boolean held(int c) {
            return works.stream().anyMatch(w -> w.goes && w.holds() && w.on == c);
        }

        void fall(int c, int more) {
            water[c] += more;
            if (water[c] > 999) {
                water[c] = 999;
            }
        }

        int drawn(Work w, int c) {
            return Math.min(water[c], w.draws(this, c));
        }

        int cost(Work w) {
            return Math.max(0, w.costs(says(2, w.on, w)));
        }

        int bits() {
            int bits = 0;
            for (int c = 11; c >= 0; c--) {
                bits = bits * 2 + (water[c] == 0 ? 1 : 0);
            }
            return bits;
        }

        int dry() {
            return Integer.bitCount(bits());
        }

        void pass() {
            for (int c = 11; c >= 0; c--) {
                fall(c, says(0, c, null));
            }
            for (int c = 11; c >= 1; c--) {
                int here = height[c] + water[c];
                int next = height[c - 1] + water[c - 1];
                if (here > next && !held(c - 1)) {
                    int flows = Math.min((here - next) / 2, water[c]);
                    water[c] -= flows;
                    fall(c - 1, flows);
                }
            }
            int level = height[0] + water[0];
            if (level > river) {
                water[0] -= Math.min((level - river) / 2, water[0]);
            } else if (level < river && !held(0)) {
                fall(0, (river - level) / 2);
            }
            for (Work w : works) {
                if (w.goes) {
                    int[] cells = w.spreads() ? new int[] {w.on, w.on - 1, w.on + 1} : new int[] {w.on};
                    for (int c : cells) {
                        if (c >= 0 && c <= 11) {
                            water[c] -= drawn(w, c);
                        }
                    }
                    paid += cost(w);
                }
            }
            for (int c = 0; c < 12; c++) {
                if (water[c] == 0) {
                    int less = Math.min(Math.min(peat[c], height[c]), says(1, c, null));
                    height[c] -= less;
                    peat[c] -= less;
                }
            }
            year++;
        }

        /** DRY CELLS behind each of n YEARS; this land lives through them. */
        List<Integer> course(int n) {
            List<Integer> bits = new ArrayList<>();
            for (int i = 0; i < n; i++) {
                pass();
                bits.add(bits());
            }
            return bits;
        }
    }

    Land land = new Land();
    Land image = null;
    final StringBuilder tape = new StringBuilder();
    final List<List<E>> texts = new ArrayList<>();
    final int[][] rows = new int[4][];
    final int[] sorts = {-1, -1, -1, -1};

    Model() {
        for (int c = 0; c < 12; c++) {
            land.height[c] = 40;
            land.peat[c] = 20;
            land.water[c] = 5;
        }
        texts.add(new Parser("rains 6 ; shrinks 2 ; calls 3 ;").text());
    }

    // ---- texts

    interface E {
        int value(Map<String, Integer> names);
    }

    static final class Fault extends RuntimeException {
        private static final long serialVersionUID = 1;
        final int place;

        Fault(int place) {
            this.place = place;
        }
    }

    private record Token(String text, int place) {
    }

    /** Reads by levels of joining signs, the weakest first. */
    static final class Parser {
        private static final List<String> NAMES = List.of("height", "peat", "year", "number", "water", "cell");
        private static final List<List<String>> LEVELS =
            List.of(List.of("or"), List.of("and"), List.of("<", "="), List.of("+", "-"), List.of("*"));
        private final Deque<Token> tokens = new ArrayDeque<>();
        private final int size;

        Parser(String tape) {
            size = tape.length();
            int i = 0;
            while (i < size) {
                char c = tape.charAt(i);
                int from = i;
                i++;
                if (c == 32 || c == 10) {
                    continue;
                }
                while (i < size && (alike(c, tape.charAt(i), 'a', 'z') || alike(c, tape.charAt(i), '0', '9'))) {
                    i++;
                }
                tokens.add(new Token(tape.substring(from, i), from));
            }
        }

        private static boolean alike(char c, char d, char low, char high) {
            return low <= c && c <= high && low <= d && d <= high;
        }

        private String ahead() {
            return tokens.isEmpty() ? "" : tokens.peek().text();
        }

        private String take() {
            return tokens.remove().text();
        }

        private Fault fault() {
            return new Fault(tokens.isEmpty() ? size : tokens.peek().place());
        }

        private void take(String wanted) {
            if (!ahead().equals(wanted)) {
                throw fault();
            }
            take();
        }

        List<E> text() {
            List<E> parts = new ArrayList<>();
            for (String key : List.of("rains", "shrinks", "calls")) {
                take(key);
                parts.add(joined(0, 5));
                take(";");
            }
            if (!tokens.isEmpty()) {
                throw fault();
            }
            return parts;
        }

        private void open(int left) {
            if (left == 0) {
                throw fault();
            }
            take();
        }

        private E joined(int level, int left) {
            if (level == 5) {
                return one(left);
            }
            if (level == 2 && ahead().equals("not")) {
                open(left);
                E e = joined(2, left - 1);
                return n -> e.value(n) == 0 ? 1 : 0;
            }
            E e = joined(level + 1, left);
            while (LEVELS.get(level).contains(ahead())) {
                String sign = take();
                e = both(sign, e, joined(level + 1, left));
                if (level == 2) {
                    break;
                }
            }
            return e;
        }

        private static E both(String sign, E a, E b) {
            return switch (sign) {
                case "or" -> n -> a.value(n) != 0 || b.value(n) != 0 ? 1 : 0;
                case "and" -> n -> a.value(n) != 0 && b.value(n) != 0 ? 1 : 0;
                case "<" -> n -> a.value(n) < b.value(n) ? 1 : 0;
                case "=" -> n -> a.value(n) == b.value(n) ? 1 : 0;
                case "+" -> n -> (int) ((long) a.value(n) + b.value(n));
                case "-" -> n -> (int) ((long) a.value(n) - b.value(n));
                default -> n -> (int) ((long) a.value(n) * b.value(n));
            };
        }

        private E one(int left) {
            String token = ahead();
            if (token.matches("[0-9]{1,4}")) {
                take();
                int v = Integer.parseInt(token);
                return n -> v;
            }
            if (NAMES.contains(token)) {
                take();
                return n -> n.get(token);
            }
            if (token.equals("-")) {
                open(left);
                E e = one(left - 1);
                return n -> (int) -(long) e.value(n);
            }
            if (token.equals("(")) {
                open(left);
                E e = joined(0, left - 1);
                take(")");
                return e;
            }
            throw fault();
        }
    }

    // ---- the calls

    private static boolean in(int v, int low, int high) {
        return low <= v && v <= high;
    }

    private Work workOf(int of) {
        check(in(of, 0, land.works.size() - 1), -2);
        return land.works.get(of);
    }

    int set(int what, int of, int v) {
        int was = told(of, what);
        check(in(what, 0, 7), -2);
        check(in(v, 0, new int[] {99, 999, 99, 99, 999, 9, 11, 1}[what]), -2);
        switch (what) {
            case 0 -> land.river = v;
            case 1 -> land.year = v;
            case 2 -> land.height[of] = v;
            case 3 -> land.peat[of] = v;
            case 4 -> land.water[of] = v;
            case 5 -> workOf(of).number = v;
            case 6 -> workOf(of).on = v;
            default -> workOf(of).goes = v == 1;
        }
        return was;
    }

    int work(int kind, int number, int on) {
        Work w = made(kind, number, on);
        check(land.works.size() < 6, -4);
        land.works.add(w);
        return land.works.size() - 1;
    }

    int told(int of, int what) {
        check(in(what, 0, 10), -2);
        check(!in(what, 2, 4) || in(of, 0, 11), -2);
        return switch (what) {
            case 0 -> land.river;
            case 1 -> land.year;
            case 2 -> land.height[of];
            case 3 -> land.peat[of];
            case 4 -> land.water[of];
            case 5 -> workOf(of).number;
            case 6 -> workOf(of).on;
            case 7 -> workOf(of).goes ? 1 : 0;
            case 8 -> kindOf(workOf(of));
            case 9 -> land.drawn(workOf(of), workOf(of).on);
            default -> land.cost(workOf(of));
        };
    }

    int feed(int letter) {
        check(in(letter, 0, 255), -2);
        check(tape.length() < 160, -4);
        tape.append((char) letter);
        return tape.length();
    }

    int text() {
        check(texts.size() < 6, -4);
        String all = tape.toString();
        tape.setLength(0);
        try {
            texts.add(new Parser(all).text());
            return texts.size() - 1;
        } catch (Fault f) {
            return -100 - f.place;
        }
    }

    int force(int text) {
        check(in(text, 0, texts.size() - 1), -2);
        int was = land.rule;
        land.rule = text;
        return was;
    }

    int asks(int part, int where) {
        check(in(part, 0, 1) && in(where, 0, 11), -2);
        return land.says(part, where, null);
    }

    int year() {
        check(land.year < 999, -3);
        land.pass();
        return land.dry();
    }

    private static int count(int bits) {
        return Integer.bitCount(bits);
    }

    private int judged(List<Integer> course) {
        for (int i = 0; i < course.size(); i++) {
            int dry = count(course.get(i));
            if (course.stream().allMatch(b -> count(b) <= dry)) {
                return i;
            }
        }
        return -1;
    }

    int run(int n, int what) {
        check(in(n, 0, 30), -2);
        check(in(what, 0, 4) || in(what, 100, 111) || in(what, 200, 211) || in(what, 300, 311), -2);
        Land l = land.copy();
        List<Integer> course = l.course(n);
        switch (what / 100) {
            case 1:
                return l.height[what - 100];
            case 2:
                return l.peat[what - 200];
            case 3:
                return l.water[what - 300];
            default:
                break;
        }
        switch (what) {
            case 0:
                return l.bits();
            case 1:
                return (int) (l.paid - land.paid);
            case 2:
                return judged(course);
            case 3:
                return n == 0 ? -1 : count(course.get(judged(course)));
            default:
                int kept = 0;
                for (int i = 0; i < n; i++) {
                    int dry = count(course.get(i));
                    kept += course.subList(0, i).stream().allMatch(b -> count(b) <= dry) ? 1 : 0;
                }
                return kept;
        }
    }

    int first(int n, int k) {
        check(in(n, 0, 30) && in(k, 1, 12), -2);
        List<Integer> course = land.copy().course(n);
        return least(0, n - 1, i -> count(course.get(i)) >= k);
    }

    private static int least(int low, int high, IntPredicate good) {
        for (int i = low; i <= high; i++) {
            if (good.test(i)) {
                return i;
            }
        }
        return -1;
    }

    private int bitsWith(int n, Consumer<Land> change) {
        Land l = land.copy();
        change.accept(l);
        l.course(n);
        return l.bits();
    }

    int where(int kindNumber, int n, int what) {
        check(in(kindNumber, 0, 59) && in(n, 0, 30) && in(what, 0, 1), -2);
        check(land.works.size() < 6, -4);
        int[] dry = new int[12];
        int most = 0;
        for (int c = 0; c < 12; c++) {
            int on = c;
            dry[c] = count(bitsWith(n, l -> l.works.add(made(kindNumber / 10, kindNumber % 10, on))));
            most = Math.max(most, dry[c]);
        }
        int best = most;
        return what == 1 ? most : least(0, 11, c -> dry[c] == best);
    }

    int idle(int n) {
        check(in(n, 0, 30), -2);
        int dry = count(bitsWith(n, l -> { }));
        return least(0, land.works.size() - 1, w -> land.works.get(w).goes
            && count(bitsWith(n, l -> l.works.get(w).goes = false)) >= dry);
    }

    int low(int n, int k) {
        check(in(n, 0, 30) && in(k, 1, 12), -2);
        int down = least(0, 99, r -> count(bitsWith(n, l -> l.river = 99 - r)) >= k);
        return down < 0 ? -1 : 99 - down;
    }

    int floods(int work, int n) {
        check(in(work, 0, land.works.size() - 1) && in(n, 0, 30), -2);
        int with = bitsWith(n, l -> { });
        int without = bitsWith(n, l -> l.works.get(work).goes = false);
        return (with ^ 4095) & without;
    }

    private int other(int[] row, Consumer<Land> change) {
        Land l = land.copy();
        change.accept(l);
        List<Integer> course = l.course(row.length);
        return least(0, row.length - 1, i -> course.get(i) != row[i]);
    }

    int tells(int sheet, int what) {
        check(in(sheet, 0, 3), -2);
        check(in(what, 0, 3) || in(what, 10, 39) && what % 10 < land.works.size(), -2);
        check(sorts[sheet] >= 0, -11);
        int[] row = rows[sheet];
        check(row.length <= 30, -2);
        int w = what % 10;
        return switch (what < 4 ? what : what / 10 * 10) {
            case 0 -> other(row, l -> { });
            case 1 -> bits(texts.size(), v -> other(row, l -> l.rule = v) < 0);
            case 2 -> {
                int many = 0;
                for (int r = 0; r < 100; r++) {
                    int river = r;
                    many += other(row, l -> l.river = river) < 0 ? 1 : 0;
                }
                yield many;
            }
            case 3 -> {
                int down = least(0, 99, r -> other(row, l -> l.river = 99 - r) < 0);
                yield down < 0 ? -1 : 99 - down;
            }
            case 10 -> bits(6, v -> other(row, l -> l.works.set(w, again(l.works.get(w), v))) < 0);
            case 20 -> bits(10, v -> other(row, l -> l.works.get(w).number = v) < 0);
            default -> bits(12, v -> other(row, l -> l.works.get(w).on = v) < 0);
        };
    }

    private static int bits(int n, IntPredicate good) {
        int bits = 0;
        for (int v = 0; v < n; v++) {
            bits += good.test(v) ? 1 << v : 0;
        }
        return bits;
    }

    int film(int sheet, int n) {
        check(in(sheet, 0, 3) && in(n, 0, 30), -2);
        sorts[sheet] = 1;
        rows[sheet] = land.copy().course(n).stream().mapToInt(b -> b).toArray();
        return n;
    }

    int drawn(int seed, int n) {
        check(in(n, 0, 30), -2);
        Land l = land.copy();
        int z = seed;
        for (int i = 0; i < n; i++) {
            z = (int) (z * 1103515245L + 12345L);
            int more = (int) ((z & 0xFFFFFFFFL) / 512 % 10);
            for (int c = 0; c < 12; c++) {
                l.fall(c, more);
            }
            l.pass();
        }
        return l.dry();
    }

    long chance(int seed, int m, int nk, int part) {
        check(in(m, 1, 20) && in(part, 0, 1) && in(nk, 0, 3012) && in(nk % 100, 0, 12), -2);
        int good = 0;
        for (int i = 0; i < m; i++) {
            good += drawn(seed + i, nk / 100) >= nk % 100 ? 1 : 0;
        }
        int above = good;
        int common = -least(-20, -1, d -> above % d == 0 && m % d == 0);
        return part == 0 ? good / common : m / common;
    }

    int image() {
        image = land.copy();
        return land.works.size();
    }

    int back() {
        check(image != null, -3);
        land = image.copy();
        return land.works.size();
    }

    int counts(int what) {
        check(in(what, 0, 7), -2);
        return switch (what) {
            case 0 -> land.works.size();
            case 1 -> (int) land.works.stream().filter(w -> w.goes).count();
            case 2 -> land.dry();
            case 3 -> land.year;
            case 4 -> (int) land.paid;
            case 5 -> texts.size();
            case 6 -> tape.length();
            default -> land.rule;
        };
    }

    int sheet(int sheet, int sort, int n) {
        check(in(sheet, 0, 3) && in(sort, -1, 2), -2);
        check(sort == -1 || n <= 40, -2);
        check(sort == -1 || n >= 0, -14);
        sorts[sheet] = sort;
        rows[sheet] = sort == -1 ? null : new int[n];
        return 1;
    }

    int cell(int sheet, int i, int v) {
        check(in(sheet, 0, 3), -2);
        check(sorts[sheet] >= 0, -11);
        check(in(i, 0, rows[sheet].length - 1), -12);
        rows[sheet][i] = sorts[sheet] == 0 ? (byte) v : sorts[sheet] == 1 ? (short) v : v;
        return 1;
    }

    int copy(int sheet, int i, int other, int j, int n) {
        check(in(sheet, 0, 3) && in(other, 0, 3), -2);
        check(sorts[sheet] >= 0 && sorts[other] >= 0, -11);
        check(sorts[sheet] == sorts[other], -13);
        check(i >= 0 && j >= 0 && n >= 0, -12);
        check((long) i + n <= rows[sheet].length && (long) j + n <= rows[other].length, -12);
        int[] were = rows[sheet].clone();
        for (int k = 0; k < n; k++) {
            rows[other][j + k] = were[i + k];
        }
        return n;
    }

    int works(int sheet, int sort, int from, int n) {
        check(in(sheet, 0, 3) && in(sort, 0, 2) && in(n, 0, 6), -2);
        check(sorts[sheet] < 0 || sorts[sheet] == sort, -13);
        check(sorts[sheet] >= 0, -11);
        int came = 0;
        for (int k = 0; k < n; k++) {
            int[] three = new int[3];
            for (int t = 0; t < 3; t++) {
                long at = from + 3L * k + t;
                check(at >= 0 && at < rows[sheet].length, -12);
                three[t] = rows[sheet][(int) at];
            }
            came += answer(() -> work(three[0], three[1], three[2]), 0) >= 0 ? 1 : 0;
        }
        return came;
    }

    int taken(int work, int k) {
        check(in(k, 0, 5), -2);
        check(in(work, 0, land.works.size() - 1), -11);
        check(KINDS.get(k).isInstance(land.works.get(work)), -13);
        return land.works.get(work).number;
    }
}
