import java.math.BigInteger;

/**
 * The face of RecipePlans once more, as plainly as can be and by other ways: every whole mix is
 * tried, cut mixes are found by the simplex method in fractions of any size, and every set of
 * rules is asked on its own whether it clashes.
 */
final class SlowPlans {
    static final int NONE = -1;

    private int lots = 0;
    private final int[] stock = new int[4];
    private final long[] cents = new long[4];
    private final int[][] amounts = new int[4][5];
    /** {first, second, low, high, over} or, for a span, {what, -1, low, high, 1}; null when not told. */
    private final int[][] rules = new int[8][];

    private int[] best = null;
    private long bestCost = 0;
    private Fraction leastCut = null;
    private int clashing = 0;

    int lot(int stock, long cents) {
        if (lots == 4 || stock < 0 || stock > 9 || cents < -1000 || cents > 1000) return NONE;
        this.stock[lots] = stock;
        this.cents[lots] = cents;
        return lots++;
    }

    boolean amount(int lot, int what, int v) {
        if (lot < 0 || lot >= lots || what < 0 || what > 4 || v < -100 || v > 100) return false;
        amounts[lot][what] = v;
        return true;
    }

    boolean span(int what, int low, int high) {
        if (what < 0 || what > 4 || low < -100000 || high > 100000 || low > high) return false;
        rules[what] = new int[] {what, -1, low, high, 1};
        return true;
    }

    boolean ratio(int k, int first, int second, int low, int high, int over) {
        if (k < 0 || k > 1 || first < 0 || first > 4 || second < 0 || second > 4) return false;
        if (low < 0 || high > 100 || low > high || over < 1 || over > 100) return false;
        rules[5 + k] = new int[] {first, second, low, high, over};
        return true;
    }

    boolean loads(int low, int high) {
        if (low < 0 || high > 36 || low > high) return false;
        rules[7] = new int[] {-1, -1, low, high, 1};
        return true;
    }

    boolean untell(int rule) {
        if (rule < 0 || rule > 7 || rules[rule] == null) return false;
        rules[rule] = null;
        return true;
    }

    int run() {
        findBest();
        leastCut = leastCost(toldRules());
        clashing = leastCut != null ? 0 : findClash();
        if (best != null) return 0;
        return leastCut != null ? 1 : 2;
    }

    int best(int lot) {
        return best == null || lot < 0 || lot >= best.length ? NONE : best[lot];
    }

    long cost() {
        return best == null ? Long.MIN_VALUE : bestCost;
    }

    long cut(int part) {
        if (leastCut == null || part < 0 || part > 1) return Long.MIN_VALUE;
        return (part == 0 ? leastCut.above : leastCut.below).longValueExact();
    }

    int clashes() {
        return clashing == 0 ? NONE : Integer.bitCount(clashing);
    }

    boolean clash(int rule) {
        return rule >= 0 && rule <= 7 && (clashing & (1 << rule)) != 0;
    }

    int broken(int a, int b, int c, int d) {
        int[] mix = {a, b, c, d};
        for (int lot = 0; lot < 4; lot++) {
            if (mix[lot] < 0 || mix[lot] > (lot < lots ? stock[lot] : 0)) return NONE;
        }
        for (int rule = 0; rule < 8; rule++) {
            if (rules[rule] != null && !keeps(rules[rule], mix)) return rule;
        }
        return 8;
    }

    private long holds(int what, int[] mix) {
        long sum = 0;
        for (int lot = 0; lot < 4; lot++) sum += (long) mix[lot] * (what < 0 ? 1 : amounts[lot][what]);
        return sum;
    }

    private boolean keeps(int[] rule, int[] mix) {
        long value = rule[4] * holds(rule[0], mix);
        long unit = rule[1] < 0 ? 1 : holds(rule[1], mix);
        return rule[2] * unit <= value && value <= rule[3] * unit;
    }

    private void findBest() {
        best = null;
        for (int number = 0; number < 10000; number++) {
            int[] mix = {number / 1000, number / 100 % 10, number / 10 % 10, number % 10};
            if (broken(mix[0], mix[1], mix[2], mix[3]) != 8) continue;
            long cost = 0;
            for (int lot = 0; lot < 4; lot++) cost += mix[lot] * cents[lot];
            if (best == null || cost < bestCost) {
                best = java.util.Arrays.copyOf(mix, lots);
                bestCost = cost;
            }
        }
    }

    private int toldRules() {
        int set = 0;
        for (int rule = 0; rule < 8; rule++) if (rules[rule] != null) set |= 1 << rule;
        return set;
    }

    private int findClash() {
        int told = toldRules();
        for (int size = 1; size <= 8; size++) {
            for (int set = 1; set < 256; set++) {
                if ((set & ~told) == 0 && Integer.bitCount(set) == size && leastCost(set) == null) return set;
            }
        }
        throw new IllegalStateException("no clash though no cut mix suits");
    }

    /** The least cost of cut mixes that keep a set of rules; null when there is none. */
    private Fraction leastCost(int set) {
        java.util.List<long[]> rows = new java.util.ArrayList<>();
        for (int lot = 0; lot < 4; lot++) {
            long[] row = new long[5];
            row[lot] = 1;
            row[4] = lot < lots ? stock[lot] : 0;
            rows.add(row);
        }
        for (int rule = 0; rule < 8; rule++) {
            if ((set & (1 << rule)) != 0) addSides(rows, rules[rule]);
        }
        long[] gain = new long[4];
        for (int lot = 0; lot < 4; lot++) gain[lot] = -cents[lot];
        Fraction most = Simplex.most(rows, gain);
        return most == null ? null : most.negate();
    }

    /** Adds rows (a0 .. a3, b) that say a * x <= b. */
    private void addSides(java.util.List<long[]> rows, int[] rule) {
        long[] low = new long[5];
        long[] high = new long[5];
        for (int lot = 0; lot < 4; lot++) {
            long value = rule[4] * (long) (rule[0] < 0 ? 1 : amounts[lot][rule[0]]);
            long unit = rule[1] < 0 ? 0 : amounts[lot][rule[1]];
            low[lot] = rule[2] * unit - value;
            high[lot] = value - rule[3] * unit;
        }
        if (rule[1] < 0) {
            low[4] = -rule[2];
            high[4] = rule[3];
        }
        rows.add(low);
        rows.add(high);
    }

    /** A fraction in lowest terms, above 0 below. */
    static final class Fraction {
        static final Fraction ZERO = of(0);
        final BigInteger above;
        final BigInteger below;

        Fraction(BigInteger above, BigInteger below) {
            BigInteger divisor = above.gcd(below);
            if (below.signum() < 0) divisor = divisor.negate();
            this.above = above.divide(divisor);
            this.below = below.divide(divisor);
        }

        static Fraction of(long value) {
            return new Fraction(BigInteger.valueOf(value), BigInteger.ONE);
        }

        int signum() { return above.signum(); }
        Fraction negate() { return new Fraction(above.negate(), below); }
        Fraction inverse() { return new Fraction(below, above); }
        Fraction times(Fraction o) { return new Fraction(above.multiply(o.above), below.multiply(o.below)); }
        Fraction minus(Fraction o) {
            return new Fraction(above.multiply(o.below).subtract(o.above.multiply(below)), below.multiply(o.below));
        }
        int compareTo(Fraction o) { return minus(o).signum(); }
    }

    /** The most of a sum over x of 0 or more with rows a * x <= b, by Bland's rule; null when none. */
    static final class Simplex {
        private final int m;
        private final int n;
        /** Row i: basic variable i = t[i][n] - sum of t[i][j] * variable j; row m is what is made most. */
        private final Fraction[][] t;
        private final int[] rowName;
        private final int[] columnName;

        private Simplex(java.util.List<long[]> rows, int variables) {
            m = rows.size();
            n = variables + 1;
            t = new Fraction[m + 1][n + 1];
            rowName = new int[m];
            columnName = new int[n];
            for (int j = 0; j < n; j++) columnName[j] = j;
            for (int i = 0; i < m; i++) {
                rowName[i] = n + i;
                for (int j = 0; j < variables; j++) t[i][j] = Fraction.of(rows.get(i)[j]);
                t[i][variables] = Fraction.of(-1);
                t[i][n] = Fraction.of(rows.get(i)[variables]);
            }
        }

        static Fraction most(java.util.List<long[]> rows, long[] gain) {
            int variables = gain.length;
            Simplex s = new Simplex(rows, variables);
            // The extra variable, the last column, lets every row be kept; it is made least first.
            for (int j = 0; j <= s.n; j++) s.t[s.m][j] = Fraction.ZERO;
            s.t[s.m][variables] = Fraction.of(1);
            int lowest = 0;
            for (int i = 1; i < s.m; i++) if (s.t[i][s.n].compareTo(s.t[lowest][s.n]) < 0) lowest = i;
            if (s.t[lowest][s.n].signum() < 0) {
                s.pivot(lowest, variables);
                s.climb(-1);
            }
            if (s.t[s.m][s.n].signum() != 0) return null;
            s.leave(variables);
            s.setGain(gain, variables);
            s.climb(variables);
            return s.t[s.m][s.n];
        }

        private void leave(int name) {
            for (int i = 0; i < m; i++) {
                if (rowName[i] != name) continue;
                for (int j = 0; j < n; j++) {
                    if (t[i][j].signum() != 0) {
                        pivot(i, j);
                        return;
                    }
                }
            }
        }

        private void setGain(long[] gain, int extra) {
            for (int j = 0; j <= n; j++) t[m][j] = Fraction.ZERO;
            for (int j = 0; j < n; j++) {
                if (columnName[j] < extra) t[m][j] = Fraction.of(-gain[columnName[j]]);
            }
            for (int i = 0; i < m; i++) {
                if (rowName[i] >= extra) continue;
                Fraction g = Fraction.of(gain[rowName[i]]);
                for (int j = 0; j <= n; j++) t[m][j] = t[m][j].minus(g.negate().times(t[i][j]));
            }
        }

        /** Row m holds what is made most as constant t[m][n] minus the sum of t[m][j] * variable j. */
        private void climb(int barred) {
            while (true) {
                int column = -1;
                for (int j = 0; j < n; j++) {
                    if (columnName[j] != barred && t[m][j].signum() < 0
                        && (column < 0 || columnName[j] < columnName[column])) column = j;
                }
                if (column < 0) return;
                int row = -1;
                Fraction least = null;
                for (int i = 0; i < m; i++) {
                    if (t[i][column].signum() <= 0) continue;
                    Fraction ratio = t[i][n].times(t[i][column].inverse());
                    int order = least == null ? -1 : ratio.compareTo(least);
                    if (order < 0 || order == 0 && rowName[i] < rowName[row]) {
                        least = ratio;
                        row = i;
                    }
                }
                if (row < 0) throw new IllegalStateException("no end, though stocks have one");
                pivot(row, column);
            }
        }

        private void pivot(int row, int column) {
            Fraction inverse = t[row][column].inverse();
            for (int j = 0; j <= n; j++) if (j != column) t[row][j] = t[row][j].times(inverse);
            t[row][column] = inverse;
            for (int i = 0; i <= m; i++) {
                if (i == row || t[i][column].signum() == 0) continue;
                Fraction factor = t[i][column];
                for (int j = 0; j <= n; j++) if (j != column) t[i][j] = t[i][j].minus(factor.times(t[row][j]));
                t[i][column] = factor.negate().times(inverse);
            }
            int name = rowName[row];
            rowName[row] = columnName[column];
            columnName[column] = name;
        }
    }
}
