/**
 * Mixes at least cost: lots by whole loads, rules of what they hold together, of ratios and of how
 * many loads; the cheapest mix, the cost if loads could be cut, exactly, and which rules clash.
 */
public final class RecipePlans {
    public static final int NONE = -1;

    private static final int LOTS = 4;
    private static final int WHATS = 5;
    private static final int RULES = 8;
    private static final int FIRST_RATIO = 5;
    private static final int RATIOS = 2;
    private static final int LOADS_RULE = 7;

    private static final int MOST_STOCK = 9;
    private static final long MOST_CENTS = 1000;
    private static final int MOST_AMOUNT = 100;
    private static final int MOST_SPAN = 100000;
    private static final int MOST_TIMES = 100;
    private static final int MOST_LOADS = LOTS * MOST_STOCK;

    // A form is a sum over the columns. With two forms beside the whats, the loads together and
    // the plain number one, every rule is a ratio of two forms.
    private static final int LOADS_FORM = WHATS;
    private static final int ONE_FORM = WHATS + 1;
    private static final int FORMS = WHATS + 2;

    // The columns are the lots and, last, the number one. A point's loads are its lots' columns
    // over its last one, so that cut mixes stay in whole numbers.
    private static final int ONE = LOTS;
    private static final int COLUMNS = LOTS + 1;

    // All sets of columns as bits, the smaller sets first; STARTS tells where each size begins.
    private static final int[] SETS = {
        0,
        1, 2, 4, 8, 16,
        3, 5, 6, 9, 10, 12, 17, 18, 20, 24,
        7, 11, 13, 14, 19, 21, 22, 25, 26, 28,
        15, 23, 27, 29, 30,
        31
    };
    private static final int[] STARTS = {0, 1, 6, 16, 26, 31};

    private final Lots lots;
    private final Rules rules;
    private final Sides sides;
    private final CutSearch cuts;
    private final WholeSearch wholes;
    private final Found found;
    private final long[] point;
    private final long[] held;

    public RecipePlans() {
        lots = new Lots();
        rules = new Rules();
        sides = new Sides();
        cuts = new CutSearch(lots, rules, sides);
        wholes = new WholeSearch(lots, sides);
        found = new Found();
        point = new long[COLUMNS];
        held = new long[FORMS];
    }

    public int lot(int stock, long cents) {
        if (lots.count >= LOTS || !within(stock, 0, MOST_STOCK) || !within(cents, -MOST_CENTS, MOST_CENTS)) {
            return NONE;
        }
        int number = lots.count;
        lots.stock[number] = stock;
        lots.cents[number] = cents;
        lots.count++;
        return number;
    }

    public boolean amount(int lot, int what, int v) {
        if (!within(lot, 0, lots.count - 1) || !isWhat(what) || !within(v, -MOST_AMOUNT, MOST_AMOUNT)) {
            return false;
        }
        lots.forms[what][lot] = v;
        return true;
    }

    public boolean span(int what, int low, int high) {
        if (!isWhat(what) || !isRange(low, high, -MOST_SPAN, MOST_SPAN)) {
            return false;
        }
        rules.tell(what, what, ONE_FORM, low, high, 1);
        return true;
    }

    public boolean ratio(int k, int first, int second, int low, int high, int over) {
        if (!within(k, 0, RATIOS - 1) || !isWhat(first) || !isWhat(second)) {
            return false;
        }
        if (!isRange(low, high, 0, MOST_TIMES) || !within(over, 1, MOST_TIMES)) {
            return false;
        }
        rules.tell(FIRST_RATIO + k, first, second, low, high, over);
        return true;
    }

    public boolean loads(int low, int high) {
        if (!isRange(low, high, 0, MOST_LOADS)) {
            return false;
        }
        rules.tell(LOADS_RULE, LOADS_FORM, ONE_FORM, low, high, 1);
        return true;
    }

    public boolean untell(int rule) {
        if (!within(rule, 0, RULES - 1) || !rules.isTold(rule)) {
            return false;
        }
        rules.told ^= 1 << rule;
        return true;
    }

    public int run() {
        sides.build(lots, rules);
        cuts.search();
        wholes.search(cuts.suits);
        found.takeCut(cuts);
        found.takeWhole(wholes, lots.count);
        if (wholes.suits) {
            return 0;
        }
        return cuts.suits ? 1 : 2;
    }

    public int best(int lot) {
        return found.whole && within(lot, 0, found.lots - 1) ? found.mix[lot] : NONE;
    }

    public long cost() {
        return found.whole ? found.total : Long.MIN_VALUE;
    }

    public long cut(int part) {
        if (!found.cuttable || !within(part, 0, 1)) {
            return Long.MIN_VALUE;
        }
        return part == 0 ? found.above : found.below;
    }

    public int clashes() {
        return found.clashing == 0 ? NONE : Integer.bitCount(found.clashing);
    }

    public boolean clash(int rule) {
        return within(rule, 0, RULES - 1) && hasBit(found.clashing, rule);
    }

    public int broken(int a, int b, int c, int d) {
        point[0] = a;
        point[1] = b;
        point[2] = c;
        point[3] = d;
        point[ONE] = 1;
        for (int lot = 0; lot < LOTS; lot++) {
            if (!within(point[lot], 0, lots.stock[lot])) {
                return NONE;
            }
        }
        lots.hold(point, held);
        for (int rule = 0; rule < RULES; rule++) {
            if (rules.isTold(rule) && !rules.keeps(rule, held)) {
                return rule;
            }
        }
        return RULES;
    }

    private static boolean within(long value, long low, long high) {
        return low <= value && value <= high;
    }

    private static boolean isRange(int low, int high, int least, int most) {
        return least <= low && low <= high && high <= most;
    }

    private static boolean isWhat(int what) {
        return within(what, 0, WHATS - 1);
    }

    private static boolean hasBit(int set, int bit) {
        return (set >> bit & 1) != 0;
    }

    /** The lots; one that is not there has a stock of 0, so that every mix has four. */
    private static final class Lots {
        int count;
        final int[] stock;
        final long[] cents;
        final long[][] forms;

        Lots() {
            stock = new int[LOTS];
            cents = new long[LOTS];
            forms = new long[FORMS][COLUMNS];
            for (int lot = 0; lot < LOTS; lot++) {
                forms[LOADS_FORM][lot] = 1;
            }
            forms[ONE_FORM][ONE] = 1;
        }

        void hold(long[] point, long[] held) {
            for (int form = 0; form < FORMS; form++) {
                long[] row = forms[form];
                long sum = 0;
                for (int column = 0; column < COLUMNS; column++) {
                    sum += row[column] * point[column];
                }
                held[form] = sum;
            }
        }

        long price(long[] point) {
            long sum = 0;
            for (int lot = 0; lot < LOTS; lot++) {
                sum += cents[lot] * point[lot];
            }
            return sum;
        }

        int inStock() {
            int set = 0;
            for (int lot = 0; lot < LOTS; lot++) {
                if (stock[lot] > 0) {
                    set |= 1 << lot;
                }
            }
            return set;
        }
    }

    /** Each rule says: over times the first form is from low times to high times the second. */
    private static final class Rules {
        private static final int HALF = 20;
        private static final long HALF_MASK = (1L << HALF) - 1;

        int told;
        final int[] first;
        final int[] second;
        final int[] low;
        final int[] high;
        final int[] over;

        Rules() {
            first = new int[RULES];
            second = new int[RULES];
            low = new int[RULES];
            high = new int[RULES];
            over = new int[RULES];
        }

        void tell(int rule, int one, int other, int from, int to, int times) {
            first[rule] = one;
            second[rule] = other;
            low[rule] = from;
            high[rule] = to;
            over[rule] = times;
            told |= 1 << rule;
        }

        boolean isTold(int rule) {
            return hasBit(told, rule);
        }

        boolean keeps(int rule, long[] held) {
            long one = held[first[rule]];
            long other = held[second[rule]];
            return atLeast(over[rule], one, low[rule], other) && atLeast(high[rule], other, over[rule], one);
        }

        // A form of a cut mix may come to 2.4 * 10^17, and 100 times that is beyond a long: so
        // the high and the low bits are multiplied apart.
        private static boolean atLeast(long times, long value, long otherTimes, long other) {
            long top = times * (value >> HALF) - otherTimes * (other >> HALF);
            long rest = times * (value & HALF_MASK) - otherTimes * (other & HALF_MASK);
            return top + (rest >> HALF) >= 0;
        }
    }

    /** The told rules by their two sides, low and high: rows that are 0 or more at what is kept. */
    private static final class Sides {
        int count;
        final int[] rule;
        final long[][] row;

        Sides() {
            rule = new int[RULES];
            row = new long[2 * RULES][COLUMNS];
        }

        void build(Lots lots, Rules rules) {
            count = 0;
            for (int r = 0; r < RULES; r++) {
                if (rules.isTold(r)) {
                    rule[count] = r;
                    fill(lots.forms[rules.first[r]], lots.forms[rules.second[r]], rules, r);
                    count++;
                }
            }
        }

        private void fill(long[] first, long[] second, Rules rules, int r) {
            long[] low = row[2 * count];
            long[] high = row[2 * count + 1];
            for (int column = 0; column < COLUMNS; column++) {
                long value = rules.over[r] * first[column];
                low[column] = value - rules.low[r] * second[column];
                high[column] = rules.high[r] * second[column] - value;
            }
        }
    }

    /**
     * Looks at every point of the box of stocks where sides and ends of the box meet. The cheapest
     * cut mix is such a point. And whatever rules some cut mix keeps, such a point keeps them too:
     * so which rules these points break tells which rules clash.
     */
    private static final class CutSearch {
        private static final int MOST_STEPS = 200;

        private final Lots lots;
        private final Rules rules;
        private final Sides sides;
        // By how many rows are tight, the determinants of those rows over each set of as many columns.
        // At most two of the rows have a ratio's great numbers, up to 20000, the others' are up to
        // 100: so over lots none is beyond 6.4 * 10^13, by Hadamard, and a price 36000 times that.
        private final long[][] minors;
        private final long[] point;
        private final long[] held;
        private final boolean[] seen;
        private final int[] breaks;
        private int breakCount;
        private int open;

        boolean suits;
        long above;
        long below;

        CutSearch(Lots lots, Rules rules, Sides sides) {
            this.lots = lots;
            this.rules = rules;
            this.sides = sides;
            minors = new long[LOTS + 1][1 << COLUMNS];
            point = new long[COLUMNS];
            held = new long[FORMS];
            seen = new boolean[1 << RULES];
            breaks = new int[1 << RULES];
        }

        void search() {
            begin();
            tighten(0, 0);
        }

        private void begin() {
            for (int i = 0; i < breakCount; i++) {
                seen[breaks[i]] = false;
            }
            breakCount = 0;
            suits = false;
            above = 0;
            below = 1;
            open = lots.inStock();
            minors[0][0] = 1;
        }

        /** Visits the points where the rows that are tight, as many as depth, meet those of rules from here on. */
        private void tighten(int from, int depth) {
            if (from < 0 || depth < 0 || depth > LOTS) {
                return;
            }
            visitCorners(depth);
            for (int i = from; i < sides.count && depth < LOTS; i++) {
                int rule = sides.rule[i];
                if (add(depth, sides.row[2 * i])) {
                    tighten(i + 1, depth + 1);
                }
                if (rules.low[rule] == rules.high[rule]) {
                    continue;
                }
                if (add(depth, sides.row[2 * i + 1])) {
                    tighten(i + 1, depth + 1);
                }
                if (addBoth(depth, rule)) {
                    tighten(i + 1, depth + 2);
                }
            }
        }

        // Both sides of a ratio are tight just where both its whats come to nothing. Its whats'
        // own rows say the same in small numbers, those of the sides would outgrow a long.
        private boolean addBoth(int depth, int rule) {
            return rules.second[rule] != ONE_FORM
                && depth + 2 <= LOTS
                && add(depth, lots.forms[rules.first[rule]])
                && add(depth + 1, lots.forms[rules.second[rule]]);
        }

        /** Answers whether the rows, with this one, can fix the loads of some lots that are in stock. */
        private boolean add(int depth, long[] row) {
            long[] from = minors[depth];
            long[] to = minors[depth + 1];
            boolean fixes = false;
            for (int i = STARTS[depth + 1]; i < STARTS[depth + 2]; i++) {
                int set = SETS[i];
                to[set] = expand(from, row, set);
                if (to[set] != 0 && (set & ~open) == 0) {
                    fixes = true;
                }
            }
            return fixes;
        }

        private static long expand(long[] from, long[] row, int set) {
            long sum = 0;
            long sign = 1;
            for (int column = COLUMNS - 1; column >= 0; column--) {
                if (hasBit(set, column)) {
                    sum += sign * row[column] * from[set ^ (1 << column)];
                    sign = -sign;
                }
            }
            return sum;
        }

        /** As many lots as rows are tight are free; of each other one, none or all is taken. */
        private void visitCorners(int depth) {
            long[] minor = minors[depth];
            for (int i = STARTS[depth]; i < STARTS[depth + 1]; i++) {
                int free = SETS[i];
                if ((free & ~open) != 0 || minor[free] == 0) {
                    continue;
                }
                int ended = open & ~free;
                for (int full = 0; full < 1 << LOTS; full++) {
                    if ((full & ~ended) == 0 && meets(minor, free, full)) {
                        weigh();
                    }
                }
            }
        }

        /** Sets the point where the tight rows meet; answers whether it is within the stocks. */
        private boolean meets(long[] minor, int free, int full) {
            long sign = minor[free] < 0 ? -1 : 1;
            long one = sign * minor[free];
            point[ONE] = one;
            for (int lot = 0; lot < LOTS; lot++) {
                long all = lots.stock[lot] * one;
                if (!hasBit(free, lot)) {
                    point[lot] = hasBit(full, lot) ? all : 0;
                    continue;
                }
                long part = -sign * replaced(minor, free ^ (1 << lot), lot, full);
                if (!within(part, 0, all)) {
                    return false;
                }
                point[lot] = part;
            }
            return true;
        }

        // Cramer's rule: the determinant with the free lot's column replaced by what the column of
        // one and the full lots come to. Each column that is passed on its way turns the sign.
        private long replaced(long[] minor, int others, int lot, int full) {
            long sum = 0;
            int beforeLot = (1 << lot) - 1;
            for (int column = 0; column < COLUMNS; column++) {
                if (column != ONE && !hasBit(full, column)) {
                    continue;
                }
                long times = column == ONE ? 1 : lots.stock[column];
                int passed = others & (beforeLot ^ ((1 << column) - 1));
                long term = times * minor[others | 1 << column];
                sum += hasBit(Integer.bitCount(passed), 0) ? -term : term;
            }
            return sum;
        }

        // Once some cut mix suits, none that is as dear matters, nor what it breaks.
        private void weigh() {
            long price = lots.price(point);
            if (suits && !isLess(price, point[ONE], above, below)) {
                return;
            }
            lots.hold(point, held);
            int unkept = 0;
            for (int i = 0; i < sides.count; i++) {
                if (!rules.keeps(sides.rule[i], held)) {
                    unkept |= 1 << sides.rule[i];
                }
            }
            if (unkept == 0) {
                suits = true;
                above = price;
                below = point[ONE];
            } else if (!seen[unkept]) {
                seen[unkept] = true;
                breaks[breakCount] = unkept;
                breakCount++;
            }
        }

        // Crosswise products would outgrow a long: so whole parts are compared, then, as Euclid
        // does, what is left of each, upside down.
        private static boolean isLess(long a, long b, long c, long d) {
            for (int step = 0; step < MOST_STEPS; step++) {
                if (b <= 0 || d <= 0) {
                    return false;
                }
                long whole = Math.floorDiv(a, b);
                long otherWhole = Math.floorDiv(c, d);
                if (whole != otherWhole) {
                    return whole < otherWhole;
                }
                long left = a - whole * b;
                long otherLeft = c - otherWhole * d;
                if (left == 0 || otherLeft == 0) {
                    return otherLeft != 0;
                }
                a = d;
                c = b;
                b = otherLeft;
                d = left;
            }
            return false;
        }

        long commonDivisor() {
            long one = Math.abs(above);
            long other = below;
            for (int step = 0; step < MOST_STEPS && one != 0; step++) {
                long left = other % one;
                other = one;
                one = left;
            }
            return other > 0 ? other : 1;
        }

        /** The fewest told rules of which every point breaks one, as bits; by rising sets, so the least wins. */
        int fewestClashing() {
            int fewest = 0;
            int size = RULES + 1;
            for (int set = 1; set < 1 << RULES; set++) {
                if ((set & ~rules.told) == 0 && Integer.bitCount(set) < size && allBreak(set)) {
                    fewest = set;
                    size = Integer.bitCount(set);
                }
            }
            return fewest;
        }

        private boolean allBreak(int set) {
            for (int i = 0; i < breakCount; i++) {
                if ((breaks[i] & set) == 0) {
                    return false;
                }
            }
            return true;
        }
    }

    /** Places whole loads lot by lot, fewer first, so that the first of the cheapest is met first. */
    private static final class WholeSearch {
        private final Lots lots;
        private final Sides sides;
        // By lots that are placed: each side's value so far, and the most that the others can add.
        private final long[][] value;
        private final long[][] reach;
        // The least that the lots not yet placed can cost.
        private final long[] least;
        private final int[] taken;

        boolean suits;
        long total;
        final int[] mix;

        WholeSearch(Lots lots, Sides sides) {
            this.lots = lots;
            this.sides = sides;
            value = new long[LOTS + 1][2 * RULES];
            reach = new long[LOTS + 1][2 * RULES];
            least = new long[LOTS + 1];
            taken = new int[LOTS];
            mix = new int[LOTS];
        }

        /** When not even a cut mix suits, no whole one does, and there is nothing to look for. */
        void search(boolean someCutSuits) {
            suits = false;
            total = 0;
            if (someCutSuits) {
                begin();
                place(0, 0);
            }
        }

        private void begin() {
            for (int side = 0; side < 2 * sides.count; side++) {
                value[0][side] = sides.row[side][ONE];
            }
            for (int lot = LOTS - 1; lot >= 0; lot--) {
                least[lot] = least[lot + 1] + Math.min(0, lots.cents[lot] * lots.stock[lot]);
                for (int side = 0; side < 2 * sides.count; side++) {
                    reach[lot][side] = reach[lot + 1][side] + Math.max(0, sides.row[side][lot] * lots.stock[lot]);
                }
            }
        }

        private void place(int lot, long spent) {
            if (lot < 0 || lot >= LOTS) {
                return;
            }
            int most = mostLoads(lot);
            int fewest = fewestLoads(lot);
            if (lot < LOTS - 1) {
                for (int number = fewest; number <= most; number++) {
                    take(lot, number, spent + lots.cents[lot] * number);
                }
            } else if (fewest <= most) {
                int number = lots.cents[lot] < 0 ? most : fewest;
                taken[lot] = number;
                offer(spent + lots.cents[lot] * number);
            }
        }

        private void take(int lot, int number, long spent) {
            if (suits && spent + least[lot + 1] >= total) {
                return;
            }
            taken[lot] = number;
            for (int side = 0; side < 2 * sides.count; side++) {
                value[lot + 1][side] = value[lot][side] + sides.row[side][lot] * number;
            }
            place(lot + 1, spent);
        }

        private void offer(long spent) {
            if (suits && spent >= total) {
                return;
            }
            suits = true;
            total = spent;
            for (int lot = 0; lot < LOTS; lot++) {
                mix[lot] = taken[lot];
            }
        }

        /** The most loads with which each side can still be reached; below 0 when one can't by any. */
        private int mostLoads(int lot) {
            long most = lots.stock[lot];
            for (int side = 0; side < 2 * sides.count; side++) {
                long each = sides.row[side][lot];
                long room = value[lot][side] + reach[lot + 1][side];
                if (each < 0) {
                    most = Math.min(most, Math.floorDiv(room, -each));
                } else if (each == 0 && room < 0) {
                    return -1;
                }
            }
            return (int) Math.max(most, -1);
        }

        private int fewestLoads(int lot) {
            long fewest = 0;
            for (int side = 0; side < 2 * sides.count; side++) {
                long each = sides.row[side][lot];
                if (each > 0) {
                    long room = value[lot][side] + reach[lot + 1][side];
                    fewest = Math.max(fewest, -Math.floorDiv(room, each));
                }
            }
            return (int) Math.min(fewest, MOST_STOCK + 1);
        }
    }

    /** What the last run() found; nothing at first. */
    private static final class Found {
        boolean whole;
        int lots;
        final int[] mix;
        long total;
        boolean cuttable;
        long above;
        long below;
        int clashing;

        Found() {
            mix = new int[LOTS];
        }

        void takeCut(CutSearch cuts) {
            long divisor = cuts.commonDivisor();
            cuttable = cuts.suits;
            if (divisor > 0) {
                above = cuts.above / divisor;
                below = cuts.below / divisor;
            }
            clashing = cuts.suits ? 0 : cuts.fewestClashing();
        }

        void takeWhole(WholeSearch wholes, int count) {
            whole = wholes.suits;
            lots = count;
            total = wholes.total;
            for (int lot = 0; lot < LOTS; lot++) {
                mix[lot] = wholes.mix[lot];
            }
        }
    }
}
