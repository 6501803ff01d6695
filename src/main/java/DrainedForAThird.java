/** A fen of twelve cells in a row from the river up, works that drain it, and questions about years in thought. */
public final class DrainedForAThird {
    public static final int NONE = -1, BAD = -2, STATE = -3, FULL = -4;
    public static final long NO = -4611686018427387904L;

    private static final int NOTHING = -11, OUTSIDE = -12, UNLIKE = -13, BELOW_ZERO = -14;
    private static final int FAULTY = -100;

    private static final int CELLS = 12, WORKS = 6, KINDS = 6, NUMBERS = 10, RIVERS = 100, TEXTS = 6;
    private static final int LAST_YEAR = 999, MOST_WATER = 999, MOST_YEARS = 30, MOST_SEEDS = 20;
    private static final int SHEETS = 4, SORTS = 3, MOST_ITEMS = 40;

    /** What of a fen can be set or told. */
    private static final int RIVER = 0, YEAR = 1, HEIGHT = 2, PEAT = 3, WATER = 4, NUMBER = 5, CELL = 6, GOING = 7,
            KIND = 8, DRAWS = 9, COSTS = 10, RULE = 11;

    private static final int RAINS = 0, SHRINKS = 1, CALLS = 2;

    private final Fen now;
    private final Fen thought;
    private final Fen kept;
    private boolean isKept;
    private final Text[] texts;
    private int textCount;
    private final Reader reader;
    private final Sheets sheets;
    /** DRY CELLS behind each of the YEARS that were thought last. */
    private final int[] dried;

    public DrainedForAThird() {
        now = new Fen();
        thought = new Fen();
        kept = new Fen();
        texts = new Text[TEXTS];
        texts[0] = new Text(new int[] {6}, new int[] {2}, new int[] {3});
        textCount = 1;
        reader = new Reader();
        sheets = new Sheets();
        dried = new int[MOST_YEARS];
    }

    // ---- the fen, works

    public int set(int what, int of, int v) {
        if (what > GOING || !now.has(what, of) || v < 0 || v > Fen.most(what)) {
            return BAD;
        }
        int was = now.get(what, of);
        now.put(what, of, v);
        return was;
    }

    public int work(int kind, int number, int on) {
        if (!isWork(kind, number, on)) {
            return BAD;
        }
        if (now.works >= WORKS) {
            return FULL;
        }
        now.add(kind, number, on);
        return now.works - 1;
    }

    public int told(int of, int what) {
        if (!now.has(what, of)) {
            return BAD;
        }
        if (what == DRAWS) {
            return now.drawsOfOwn(of);
        }
        if (what == COSTS) {
            return now.costs(ruleOf(now), of);
        }
        return now.get(what, of);
    }

    // ---- texts

    public int feed(int letter) {
        if (letter < 0 || letter > 255) {
            return BAD;
        }
        return reader.put(letter) ? reader.size() : FULL;
    }

    public int text() {
        if (textCount >= TEXTS) {
            return FULL;
        }
        Text read = reader.read();
        if (read == null) {
            return FAULTY - reader.fault();
        }
        texts[textCount] = read;
        textCount++;
        return textCount - 1;
    }

    public int force(int text) {
        if (text < 0 || text >= textCount) {
            return BAD;
        }
        int was = now.rule;
        now.rule = text;
        return was;
    }

    // ---- years

    public int asks(int part, int where) {
        if (part < RAINS || part > SHRINKS || !isCell(where)) {
            return BAD;
        }
        return now.says(ruleOf(now), part, where, NONE);
    }

    public int year() {
        if (now.year >= LAST_YEAR) {
            return STATE;
        }
        now.passYear(ruleOf(now));
        return Integer.bitCount(now.dryCells());
    }

    public int run(int n, int what) {
        if (!areYears(n) || !isOfRun(what)) {
            return BAD;
        }
        thinkYears(n);
        switch (what) {
            case 0:
                return thought.dryCells();
            case 1:
                return thought.paid - now.paid;
            case 2:
                return judged(n);
            case 3:
                return n == 0 ? NONE : mostDry(n);
            case 4:
                return keptYears(n);
            default:
                return thought.get(HEIGHT + what / 100 - 1, what % 100);
        }
    }

    public int first(int n, int k) {
        if (!areYears(n) || k < 1 || k > CELLS) {
            return BAD;
        }
        thinkYears(n);
        return firstDried(n, k);
    }

    // ---- what would be best

    public int where(int kindNumber, int n, int what) {
        if (kindNumber < 0 || kindNumber >= 10 * KINDS || !areYears(n) || what < 0 || what > 1) {
            return BAD;
        }
        if (now.works >= WORKS) {
            return FULL;
        }
        int best = 0;
        int most = NONE;
        for (int c = 0; c < CELLS; c++) {
            think();
            thought.add(kindNumber / 10, kindNumber % 10, c);
            int dry = Integer.bitCount(dryBehind(n));
            if (dry > most) {
                most = dry;
                best = c;
            }
        }
        return what == 0 ? best : most;
    }

    public int idle(int n) {
        if (!areYears(n)) {
            return BAD;
        }
        think();
        int dry = Integer.bitCount(dryBehind(n));
        for (int w = 0; w < now.works; w++) {
            if (now.goes(w) && Integer.bitCount(dryWithout(w, n)) >= dry) {
                return w;
            }
        }
        return NONE;
    }

    public int low(int n, int k) {
        if (!areYears(n) || k < 1 || k > CELLS) {
            return BAD;
        }
        for (int river = RIVERS - 1; river >= 0; river--) {
            think();
            thought.river = river;
            if (Integer.bitCount(dryBehind(n)) >= k) {
                return river;
            }
        }
        return NONE;
    }

    public int floods(int work, int n) {
        if (work < 0 || work >= now.works || !areYears(n)) {
            return BAD;
        }
        think();
        int dry = dryBehind(n);
        return dryWithout(work, n) & ~dry;
    }

    // ---- years that were told

    public int tells(int sheet, int what) {
        if (!sheets.has(sheet) || !isOfTells(what)) {
            return BAD;
        }
        if (sheets.isMissing(sheet)) {
            return NOTHING;
        }
        if (sheets.size(sheet) > MOST_YEARS) {
            return BAD;
        }
        switch (what) {
            case 0:
                return firstOther(sheet, RIVER, 0, now.river);
            case 1:
                return fitting(sheet, RULE, 0, textCount);
            case 2:
                return fittingRivers(sheet);
            case 3:
                return highestFittingRiver(sheet);
            default:
                return fitting(sheet, toldOfWork(what), what % 10, Fen.most(toldOfWork(what)) + 1);
        }
    }

    public int film(int sheet, int n) {
        if (!sheets.has(sheet) || !areYears(n)) {
            return BAD;
        }
        thinkYears(n);
        sheets.make(sheet, 1, n);
        for (int i = 0; i < n; i++) {
            sheets.put(sheet, i, dried[i]);
        }
        return n;
    }

    public int drawn(int seed, int n) {
        if (!areYears(n)) {
            return BAD;
        }
        return dryDrawn(seed, n);
    }

    public long chance(int seed, int m, int nk, int part) {
        if (m < 1 || m > MOST_SEEDS || part < 0 || part > 1) {
            return NO;
        }
        int n = nk / 100;
        int k = nk % 100;
        if (nk < 0 || n > MOST_YEARS || k > CELLS) {
            return NO;
        }
        int enough = 0;
        for (int i = 0; i < m; i++) {
            if (dryDrawn(seed + i, n) >= k) {
                enough++;
            }
        }
        int common = commonDivisor(enough, m);
        return part == 0 ? enough / common : m / common;
    }

    public int image() {
        kept.take(now);
        isKept = true;
        return now.works;
    }

    public int back() {
        if (!isKept) {
            return STATE;
        }
        now.take(kept);
        return now.works;
    }

    public int count(int what) {
        switch (what) {
            case 0:
                return now.works;
            case 1:
                return now.goingWorks();
            case 2:
                return Integer.bitCount(now.dryCells());
            case 3:
                return now.year;
            case 4:
                return now.paid;
            case 5:
                return textCount;
            case 6:
                return reader.size();
            case 7:
                return now.rule;
            default:
                return BAD;
        }
    }

    // ---- the host

    public int sheet(int sheet, int sort, int n) {
        if (!sheets.has(sheet) || sort < NONE || sort >= SORTS) {
            return BAD;
        }
        if (sort == NONE) {
            sheets.drop(sheet);
            return 1;
        }
        if (n > MOST_ITEMS) {
            return BAD;
        }
        if (n < 0) {
            return BELOW_ZERO;
        }
        sheets.make(sheet, sort, n);
        return 1;
    }

    public int cell(int sheet, int i, int v) {
        if (!sheets.has(sheet)) {
            return BAD;
        }
        if (sheets.isMissing(sheet)) {
            return NOTHING;
        }
        if (!sheets.hasItem(sheet, i)) {
            return OUTSIDE;
        }
        sheets.put(sheet, i, v);
        return 1;
    }

    public int copy(int sheet, int i, int other, int j, int n) {
        if (!sheets.has(sheet) || !sheets.has(other)) {
            return BAD;
        }
        if (sheets.isMissing(sheet) || sheets.isMissing(other)) {
            return NOTHING;
        }
        if (sheets.sort(sheet) != sheets.sort(other)) {
            return UNLIKE;
        }
        if (!sheets.hasItems(sheet, i, n) || !sheets.hasItems(other, j, n)) {
            return OUTSIDE;
        }
        sheets.move(sheet, i, other, j, n);
        return n;
    }

    public int works(int sheet, int sort, int from, int n) {
        if (!sheets.has(sheet) || sort < 0 || sort >= SORTS || n < 0 || n > WORKS) {
            return BAD;
        }
        if (sheets.isMissing(sheet)) {
            return NOTHING;
        }
        if (sheets.sort(sheet) != sort) {
            return UNLIKE;
        }
        int came = 0;
        for (int w = 0; w < n; w++) {
            if (!sheets.hasItems(sheet, from, 3 * w + 3)) {
                return OUTSIDE;
            }
            if (comes(sheet, from + 3 * w)) {
                came++;
            }
        }
        return came;
    }

    public int taken(int work, int k) {
        if (k < 0 || k >= KINDS) {
            return BAD;
        }
        if (work < 0 || work >= now.works) {
            return NOTHING;
        }
        return Fen.isUnder(now.get(KIND, work), k) ? now.get(NUMBER, work) : UNLIKE;
    }

    // ---- what is asked for

    private static boolean isCell(int c) {
        return c >= 0 && c < CELLS;
    }

    private static boolean isWork(int kind, int number, int on) {
        return kind >= 0 && kind < KINDS && number >= 0 && number < NUMBERS && isCell(on);
    }

    private static boolean areYears(int n) {
        return n >= 0 && n <= MOST_YEARS;
    }

    private static boolean isOfRun(int what) {
        return what >= 0 && what <= 4 || what >= 100 && what < 400 && what % 100 < CELLS;
    }

    private boolean isOfTells(int what) {
        return what >= 0 && what <= 3 || what >= 10 && what < 40 && what % 10 < now.works;
    }

    // ---- years in thought

    private Text ruleOf(Fen fen) {
        return fen.rule >= 0 && fen.rule < textCount ? texts[fen.rule] : texts[0];
    }

    private void think() {
        thought.take(now);
    }

    private void thinkYears(int n) {
        think();
        for (int i = 0; i < n && i < dried.length; i++) {
            thought.passYear(ruleOf(thought));
            dried[i] = thought.dryCells();
        }
    }

    private int dryBehind(int n) {
        for (int i = 0; i < n; i++) {
            thought.passYear(ruleOf(thought));
        }
        return thought.dryCells();
    }

    private int dryWithout(int w, int n) {
        think();
        thought.put(GOING, w, 0);
        return dryBehind(n);
    }

    private int dryDrawn(int seed, int n) {
        think();
        int z = seed;
        for (int i = 0; i < n; i++) {
            z = z * 1103515245 + 12345;
            thought.pourOnAll((z >>> 9) % 10);
            thought.passYear(ruleOf(thought));
        }
        return Integer.bitCount(thought.dryCells());
    }

    /** The first of the n YEARS that were thought last behind which k or more were DRY. */
    private int firstDried(int n, int k) {
        for (int i = 0; i < n && i < dried.length; i++) {
            if (Integer.bitCount(dried[i]) >= k) {
                return i;
            }
        }
        return NONE;
    }

    private int mostDry(int n) {
        int most = 0;
        for (int i = 0; i < n && i < dried.length; i++) {
            most = Math.max(most, Integer.bitCount(dried[i]));
        }
        return most;
    }

    private int judged(int n) {
        return firstDried(n, mostDry(n));
    }

    private int keptYears(int n) {
        int years = 0;
        int most = 0;
        for (int i = 0; i < n && i < dried.length; i++) {
            int dry = Integer.bitCount(dried[i]);
            if (dry >= most) {
                years++;
                most = dry;
            }
        }
        return years;
    }

    // ---- years that were told, against those in thought

    private static int toldOfWork(int what) {
        switch (what / 10) {
            case 1:
                return KIND;
            case 2:
                return NUMBER;
            default:
                return CELL;
        }
    }

    /** The first number of the sheet that is otherwise, were a thing v. */
    private int firstOther(int sheet, int what, int of, int v) {
        think();
        thought.put(what, of, v);
        int n = sheets.size(sheet);
        for (int i = 0; i < n; i++) {
            thought.passYear(ruleOf(thought));
            if (thought.dryCells() != sheets.at(sheet, i)) {
                return i;
            }
        }
        return NONE;
    }

    /** Bits of those of the values 0 .. n - 1 of a thing by which all would be as the sheet tells. */
    private int fitting(int sheet, int what, int of, int n) {
        int bits = 0;
        for (int v = 0; v < n; v++) {
            if (firstOther(sheet, what, of, v) == NONE) {
                bits |= 1 << v;
            }
        }
        return bits;
    }

    private int fittingRivers(int sheet) {
        int fit = 0;
        for (int river = 0; river < RIVERS; river++) {
            if (firstOther(sheet, RIVER, 0, river) == NONE) {
                fit++;
            }
        }
        return fit;
    }

    private int highestFittingRiver(int sheet) {
        for (int river = RIVERS - 1; river >= 0; river--) {
            if (firstOther(sheet, RIVER, 0, river) == NONE) {
                return river;
            }
        }
        return NONE;
    }

    private static int commonDivisor(int a, int b) {
        int x = a;
        int y = b;
        // Two turns halve the larger one at least, so no int needs 64.
        for (int i = 0; i < 64 && y != 0; i++) {
            int rest = x % y;
            x = y;
            y = rest;
        }
        return x < 1 ? 1 : x;
    }

    private boolean comes(int sheet, int from) {
        int kind = sheets.at(sheet, from);
        int number = sheets.at(sheet, from + 1);
        int on = sheets.at(sheet, from + 2);
        if (!isWork(kind, number, on) || now.works >= WORKS) {
            return false;
        }
        now.add(kind, number, on);
        return true;
    }

    /** All that an image keeps, in one: so a thought and the image are taken as a whole and used again. */
    private static final class Fen {
        private static final int CUT = 1, MILL = 2, SLUICE = 3, TALL = 4, BANK = 5;
        private static final int[] UNDER = {NONE, 0, 0, 1, 2, 0};
        private static final int[] MOST = {99, 999, 99, 99, 999, 9, 11, 1, 5};
        private static final int[] MOST_SAID = {99, 20, 99};
        /** Six levels, as five ( can be open, of or, and, <, +, * that wait for a right side, and that one. */
        private static final int STACK = 31;

        private final int[] height = new int[CELLS];
        private final int[] peat = new int[CELLS];
        private final int[] water = new int[CELLS];
        private final int[] kind = new int[WORKS];
        private final int[] number = new int[WORKS];
        private final int[] place = new int[WORKS];
        private final int[] going = new int[WORKS];
        private final int[] stack = new int[STACK];
        int river = 35;
        int year;
        int paid;
        int works;
        int rule;

        Fen() {
            for (int c = 0; c < CELLS; c++) {
                height[c] = 40;
                peat[c] = 20;
                water[c] = 5;
            }
        }

        void take(Fen other) {
            System.arraycopy(other.height, 0, height, 0, CELLS);
            System.arraycopy(other.peat, 0, peat, 0, CELLS);
            System.arraycopy(other.water, 0, water, 0, CELLS);
            System.arraycopy(other.kind, 0, kind, 0, WORKS);
            System.arraycopy(other.number, 0, number, 0, WORKS);
            System.arraycopy(other.place, 0, place, 0, WORKS);
            System.arraycopy(other.going, 0, going, 0, WORKS);
            river = other.river;
            year = other.year;
            paid = other.paid;
            works = other.works;
            rule = other.rule;
        }

        void add(int aKind, int aNumber, int on) {
            if (works < WORKS) {
                kind[works] = aKind;
                number[works] = aNumber;
                place[works] = on;
                going[works] = 1;
                works++;
            }
        }

        static int most(int what) {
            return what >= 0 && what < MOST.length ? MOST[what] : 0;
        }

        boolean has(int what, int of) {
            if (what == RIVER || what == YEAR) {
                return true;
            }
            if (what >= HEIGHT && what <= WATER) {
                return isCell(of);
            }
            return what >= NUMBER && what <= COSTS && of >= 0 && of < works;
        }

        private int[] rowOf(int what) {
            switch (what) {
                case HEIGHT:
                    return height;
                case PEAT:
                    return peat;
                case WATER:
                    return water;
                case NUMBER:
                    return number;
                case CELL:
                    return place;
                case GOING:
                    return going;
                default:
                    return kind;
            }
        }

        int get(int what, int of) {
            switch (what) {
                case RIVER:
                    return river;
                case YEAR:
                    return year;
                case RULE:
                    return rule;
                default:
                    int[] row = rowOf(what);
                    return of >= 0 && of < row.length ? row[of] : 0;
            }
        }

        void put(int what, int of, int v) {
            switch (what) {
                case RIVER:
                    river = v;
                    break;
                case YEAR:
                    year = v;
                    break;
                case RULE:
                    rule = v;
                    break;
                default:
                    int[] row = rowOf(what);
                    if (of >= 0 && of < row.length) {
                        row[of] = v;
                    }
            }
        }

        boolean goes(int w) {
            return w >= 0 && w < works && going[w] == 1;
        }

        int goingWorks() {
            int go = 0;
            for (int w = 0; w < WORKS; w++) {
                if (goes(w)) {
                    go++;
                }
            }
            return go;
        }

        int dryCells() {
            int bits = 0;
            for (int c = 0; c < CELLS; c++) {
                if (water[c] == 0) {
                    bits |= 1 << c;
                }
            }
            return bits;
        }

        // ---- kinds

        static boolean isUnder(int kind, int other) {
            int k = kind;
            for (int i = 0; i < KINDS && k >= 0 && k < UNDER.length; i++) {
                if (k == other) {
                    return true;
                }
                k = UNDER[k];
            }
            return false;
        }

        private static boolean spreads(int kind) {
            return kind == CUT || kind == TALL;
        }

        private static boolean holds(int kind) {
            return kind == BANK;
        }

        private int draws(int w, int c) {
            int n = number[w];
            int cut = height[c] > river ? water[c] / 2 + n : n;
            int wanted;
            switch (kind[w]) {
                case CUT:
                    wanted = cut;
                    break;
                case MILL:
                    wanted = n + 5;
                    break;
                case SLUICE:
                    wanted = year % 3 == 2 ? 0 : cut;
                    break;
                case TALL:
                    wanted = 2 * (n + 5);
                    break;
                case BANK:
                    wanted = 0;
                    break;
                default:
                    wanted = n;
            }
            return Math.min(wanted, water[c]);
        }

        int drawsOfOwn(int w) {
            if (w < 0 || w >= works || !isCell(place[w])) {
                return 0;
            }
            return draws(w, place[w]);
        }

        int costs(Text aRule, int w) {
            if (w < 0 || w >= works) {
                return 0;
            }
            int v = says(aRule, CALLS, place[w], w);
            switch (kind[w]) {
                case CUT:
                    return v / 2;
                case MILL:
                    return 2 * v;
                case SLUICE:
                    return v / 2 + number[w];
                case TALL:
                    return 2 * v + number[w];
                default:
                    return v;
            }
        }

        // ---- a year

        void passYear(Text aRule) {
            rain(aRule);
            flow();
            drain(aRule);
            shrink(aRule);
            year++;
        }

        private void pour(int c, int more) {
            water[c] = Math.min(MOST_WATER, water[c] + more);
        }

        void pourOnAll(int more) {
            for (int c = 0; c < CELLS; c++) {
                pour(c, more);
            }
        }

        private void rain(Text aRule) {
            for (int c = 0; c < CELLS; c++) {
                pour(c, says(aRule, RAINS, c, NONE));
            }
        }

        private int heldCells() {
            int bits = 0;
            for (int w = 0; w < WORKS; w++) {
                if (goes(w) && holds(kind[w])) {
                    bits |= 1 << place[w];
                }
            }
            return bits;
        }

        private void flow() {
            int held = heldCells();
            for (int c = CELLS - 1; c > 0; c--) {
                int more = height[c] + water[c] - height[c - 1] - water[c - 1];
                if (more > 0 && (held >> (c - 1) & 1) == 0) {
                    int flows = Math.min(more / 2, water[c]);
                    water[c] -= flows;
                    pour(c - 1, flows);
                }
            }
            meetRiver((held & 1) != 0);
        }

        private void meetRiver(boolean isHeld) {
            int more = height[0] + water[0] - river;
            if (more > 0) {
                water[0] -= Math.min(more / 2, water[0]);
            } else if (!isHeld) {
                pour(0, -more / 2);
            }
        }

        private void drain(Text aRule) {
            for (int w = 0; w < WORKS; w++) {
                if (goes(w)) {
                    drawFrom(w, place[w]);
                    if (spreads(kind[w])) {
                        drawFrom(w, place[w] - 1);
                        drawFrom(w, place[w] + 1);
                    }
                    paid += costs(aRule, w);
                }
            }
        }

        private void drawFrom(int w, int c) {
            if (isCell(c)) {
                water[c] -= draws(w, c);
            }
        }

        private void shrink(Text aRule) {
            for (int c = 0; c < CELLS; c++) {
                if (water[c] == 0) {
                    int less = Math.min(says(aRule, SHRINKS, c, NONE), Math.min(peat[c], height[c]));
                    peat[c] -= less;
                    height[c] -= less;
                }
            }
        }

        // ---- what a text says

        /** Of a WORK w on the CELL, or of the CELL alone (NONE), as number means another thing then. */
        int says(Text aRule, int part, int c, int w) {
            int[] code = aRule.codeOf(part);
            int top = 0;
            for (int i = 0; i < code.length; i++) {
                int op = code[i];
                if (op > Text.NOT) {
                    if (top < STACK) {
                        stack[top] = op >= 0 ? op : named(op, c, w);
                        top++;
                    }
                } else if (op >= Text.MINUS) {
                    if (top > 0) {
                        stack[top - 1] = Text.turned(op, stack[top - 1]);
                    }
                } else if (top > 1) {
                    top--;
                    stack[top - 1] = Text.joined(op, stack[top - 1], stack[top]);
                }
            }
            int most = part >= 0 && part < MOST_SAID.length ? MOST_SAID[part] : 0;
            return Math.max(0, Math.min(most, top > 0 ? stack[0] : 0));
        }

        private int named(int name, int c, int w) {
            if (c < 0 || c >= CELLS) {
                return 0;
            }
            switch (name) {
                case Text.HEIGHT_OF:
                    return height[c];
                case Text.PEAT_OF:
                    return peat[c];
                case Text.YEAR_OF:
                    return year;
                case Text.WATER_OF:
                    return water[c];
                case Text.CELL_OF:
                    return c;
                default:
                    break;
            }
            if (w >= 0 && w < WORKS) {
                return number[w];
            }
            int standing = 0;
            for (int i = 0; i < works && i < WORKS; i++) {
                if (place[i] == c) {
                    standing++;
                }
            }
            return standing;
        }
    }

    /** A text as it was read; in its parts signs stand behind what they join, so that a stack can tell them. */
    private static final class Text {
        /** Below 0, as a NUMBER in a part stands for itself; in order: names, signs for one value, signs for two. */
        static final int HEIGHT_OF = -1, PEAT_OF = -2, YEAR_OF = -3, NUMBER_OF = -4, WATER_OF = -5, CELL_OF = -6;
        static final int NOT = -7, MINUS = -8;
        static final int OR = -9, AND = -10, LESS = -11, LIKE = -12, PLUS = -13, LESS_BY = -14, TIMES = -15;

        private final int[] rains;
        private final int[] shrinks;
        private final int[] calls;

        Text(int[] rains, int[] shrinks, int[] calls) {
            this.rains = rains;
            this.shrinks = shrinks;
            this.calls = calls;
        }

        int[] codeOf(int part) {
            if (part == RAINS) {
                return rains;
            }
            return part == SHRINKS ? shrinks : calls;
        }

        static int turned(int op, int a) {
            if (op == MINUS) {
                return -a;
            }
            return a == 0 ? 1 : 0;
        }

        static int joined(int op, int a, int b) {
            switch (op) {
                case OR:
                    return a != 0 || b != 0 ? 1 : 0;
                case AND:
                    return a != 0 && b != 0 ? 1 : 0;
                case LESS:
                    return a < b ? 1 : 0;
                case LIKE:
                    return a == b ? 1 : 0;
                case PLUS:
                    return a + b;
                case LESS_BY:
                    return a - b;
                default:
                    return a * b;
            }
        }
    }

    /** THE TAPE, and how a text is read from it. */
    private static final class Reader {
        private static final int TAPE = 160, MOST_DIGITS = 4, MOST_OPEN = 5;
        /** A TOKEN is told by its byte if it is a sign, so what is none has numbers that no sign has. */
        private static final int END = 0, FOREIGN = 1, NUMERAL = 2, WORD = 256;
        private static final int WORD_OR = WORD + 3, WORD_AND = WORD + 4, WORD_NOT = WORD + 5, FIRST_NAME = WORD + 6;
        private static final int WORDS = 12;

        private final int[] tape = new int[TAPE];
        private int size;
        private int at;
        private int token;
        private int place;
        private int amount;
        private int fault;
        private final int[] code = new int[TAPE];
        private int length;

        boolean put(int letter) {
            if (size >= TAPE) {
                return false;
            }
            tape[size] = letter;
            size++;
            return true;
        }

        int size() {
            return size;
        }

        int fault() {
            return fault;
        }

        /** The text on THE TAPE, or null if it has a fault; THE TAPE is empty then. */
        Text read() {
            at = 0;
            fault = NONE;
            next();
            int[] rains = readPart(RAINS);
            int[] shrinks = readPart(SHRINKS);
            int[] calls = readPart(CALLS);
            expect(END);
            size = 0;
            return fault == NONE ? new Text(rains, shrinks, calls) : null;
        }

        // ---- tokens

        private void next() {
            if (fault != NONE) {
                return;
            }
            while (at < size && (tape[at] == 32 || tape[at] == 10)) {
                at++;
            }
            place = at;
            if (at >= size) {
                token = END;
            } else if (isLetter(tape[at])) {
                nextWord();
            } else if (isDigit(tape[at])) {
                nextNumber();
            } else {
                token = isSign(tape[at]) ? tape[at] : FOREIGN;
                at++;
            }
        }

        private void nextWord() {
            while (at < size && isLetter(tape[at])) {
                at++;
            }
            token = FOREIGN;
            for (int w = 0; w < WORDS; w++) {
                String word = wordOf(w);
                boolean isSame = word.length() == at - place;
                for (int i = 0; i < word.length() && isSame; i++) {
                    isSame = tape[place + i] == word.charAt(i);
                }
                if (isSame) {
                    token = WORD + w;
                }
            }
        }

        private void nextNumber() {
            amount = 0;
            while (at < size && isDigit(tape[at])) {
                amount = amount * 10 + tape[at] - '0';
                at++;
            }
            token = at - place <= MOST_DIGITS ? NUMERAL : FOREIGN;
        }

        private static boolean isLetter(int b) {
            return b >= 'a' && b <= 'z';
        }

        private static boolean isDigit(int b) {
            return b >= '0' && b <= '9';
        }

        private static boolean isSign(int b) {
            return b == '(' || b == ')' || b == ';' || b == '+' || b == '-' || b == '*' || b == '<' || b == '=';
        }

        /** The KEYS, parts first as they are numbered, then the NAMES in the order of their codes. */
        private static String wordOf(int w) {
            switch (w) {
                case 0:
                    return "rains";
                case 1:
                    return "shrinks";
                case 2:
                    return "calls";
                case 3:
                    return "or";
                case 4:
                    return "and";
                case 5:
                    return "not";
                case 6:
                    return "height";
                case 7:
                    return "peat";
                case 8:
                    return "year";
                case 9:
                    return "number";
                case 10:
                    return "water";
                default:
                    return "cell";
            }
        }

        // ---- grammar

        private void fail() {
            if (fault == NONE) {
                fault = place;
                // No loop of the grammar goes on with this one.
                token = FOREIGN;
            }
        }

        private void expect(int wanted) {
            if (token == wanted) {
                next();
            } else {
                fail();
            }
        }

        private void emit(int op) {
            if (length < TAPE) {
                code[length] = op;
                length++;
            }
        }

        private int[] readPart(int part) {
            length = 0;
            expect(WORD + part);
            readEither(0);
            expect(';');
            int[] read = new int[length];
            System.arraycopy(code, 0, read, 0, length);
            return read;
        }

        /** E; open: how many of ( and not and - ahead of a ONE are open. */
        private void readEither(int open) {
            readBoth(open);
            for (int i = 0; i < TAPE && token == WORD_OR; i++) {
                next();
                readBoth(open);
                emit(Text.OR);
            }
        }

        private void readBoth(int open) {
            readNot(open);
            for (int i = 0; i < TAPE && token == WORD_AND; i++) {
                next();
                readNot(open);
                emit(Text.AND);
            }
        }

        private void readNot(int open) {
            if (token == WORD_NOT && open < MOST_OPEN) {
                next();
                readNot(open + 1);
                emit(Text.NOT);
                return;
            }
            readSum(open);
            if (token == '<' || token == '=') {
                int op = token == '<' ? Text.LESS : Text.LIKE;
                next();
                readSum(open);
                emit(op);
            }
        }

        private void readSum(int open) {
            readTerm(open);
            for (int i = 0; i < TAPE && (token == '+' || token == '-'); i++) {
                int op = token == '+' ? Text.PLUS : Text.LESS_BY;
                next();
                readTerm(open);
                emit(op);
            }
        }

        private void readTerm(int open) {
            readOne(open);
            for (int i = 0; i < TAPE && token == '*'; i++) {
                next();
                readOne(open);
                emit(Text.TIMES);
            }
        }

        private void readOne(int open) {
            if (token == NUMERAL) {
                emit(amount);
                next();
            } else if (token >= FIRST_NAME) {
                emit(Text.HEIGHT_OF - (token - FIRST_NAME));
                next();
            } else if (token == '-' && open < MOST_OPEN) {
                next();
                readOne(open + 1);
                emit(Text.MINUS);
            } else if (token == '(' && open < MOST_OPEN) {
                next();
                readEither(open + 1);
                expect(')');
            } else {
                fail();
            }
        }
    }

    /** The host's rows of numbers; of a row that is missing the sort is NONE. */
    private static final class Sheets {
        private final int[][] items = new int[SHEETS][MOST_ITEMS];
        private final int[] sorts = new int[SHEETS];
        private final int[] sizes = new int[SHEETS];

        Sheets() {
            for (int s = 0; s < SHEETS; s++) {
                sorts[s] = NONE;
            }
        }

        boolean has(int s) {
            return s >= 0 && s < SHEETS;
        }

        boolean isMissing(int s) {
            return !has(s) || sorts[s] == NONE;
        }

        int sort(int s) {
            return has(s) ? sorts[s] : NONE;
        }

        int size(int s) {
            return has(s) ? sizes[s] : 0;
        }

        boolean hasItem(int s, int i) {
            return i >= 0 && i < size(s);
        }

        boolean hasItems(int s, int i, int n) {
            return i >= 0 && n >= 0 && i <= size(s) - n;
        }

        void drop(int s) {
            if (has(s)) {
                sorts[s] = NONE;
                sizes[s] = 0;
            }
        }

        void make(int s, int sort, int n) {
            if (has(s) && n >= 0 && n <= MOST_ITEMS) {
                sorts[s] = sort;
                sizes[s] = n;
                for (int i = 0; i < n; i++) {
                    items[s][i] = 0;
                }
            }
        }

        int at(int s, int i) {
            return hasItem(s, i) ? items[s][i] : 0;
        }

        void put(int s, int i, int v) {
            if (hasItem(s, i)) {
                items[s][i] = narrowed(sorts[s], v);
            }
        }

        void move(int s, int i, int other, int j, int n) {
            if (hasItems(s, i, n) && hasItems(other, j, n)) {
                System.arraycopy(items[s], i, items[other], j, n);
            }
        }

        private static int narrowed(int sort, int v) {
            if (sort == 0) {
                return (byte) v;
            }
            return sort == 1 ? (short) v : v;
        }
    }
}
