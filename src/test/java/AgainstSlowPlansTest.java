import java.util.Random;

/**
 * Runs of calls by fixed seeds, each call on a RecipePlans and on a SlowPlans, whose answers must
 * agree. Arguments: how many runs, and the first seed.
 */
public final class AgainstSlowPlansTest {
    private static final int CALLS = 160;
    private static int wrong = 0;

    private final Random random;
    private final long seed;
    private final RecipePlans plans = new RecipePlans();
    private final SlowPlans slow = new SlowPlans();
    private final StringBuilder told = new StringBuilder();
    /** How wild the numbers are: small ones, ones like real lots, or the greatest there are. */
    private final int kind;
    private final int[] outcomes;
    /** Most rules are told round a mix, cut in thirds, so that they can often be kept together. */
    private final double[] aim = new double[4];
    private final int[][] amounts = new int[4][5];
    private final int[] stocks = new int[4];

    private AgainstSlowPlansTest(long seed, int[] outcomes) {
        this.seed = seed;
        this.outcomes = outcomes;
        random = new Random(seed);
        kind = random.nextInt(5);
    }

    public static void main(String[] args) {
        int runs = args.length > 0 ? Integer.parseInt(args[0]) : 150;
        long first = args.length > 1 ? Long.parseLong(args[1]) : 1;
        int[] outcomes = new int[3];
        for (long seed = first; seed < first + runs && wrong < 5; seed++) new AgainstSlowPlansTest(seed, outcomes).go();
        System.out.println("run() answered 0, 1, 2: " + outcomes[0] + ", " + outcomes[1] + ", " + outcomes[2] + " times");
        for (int times : outcomes) if (times == 0) wrong++;
        System.out.println(wrong == 0 ? "all answers agree" : wrong + " answers do not agree");
        if (wrong != 0) System.exit(1);
    }

    private void go() {
        int atFirst = kind == 0 ? random.nextInt(5) : 4;
        for (int lot = 0; lot < atFirst; lot++) {
            addLot();
            for (int what = 0; what < 5; what++) if (random.nextInt(5) > 0) tellAmount(lot, what);
        }
        for (int call = 0; call < CALLS && wrong < 5; call++) {
            if (call % 40 == 0) takeAim();
            step();
        }
        runAndAsk();
    }

    private void takeAim() {
        for (int lot = 0; lot < 4; lot++) aim[lot] = random.nextInt(3 * stocks[lot] + 1) / 3.0;
    }

    private double aimed(int what) {
        double sum = 0;
        for (int lot = 0; lot < 4; lot++) sum += aim[lot] * (what < 0 ? 1 : amounts[lot][what]);
        return sum;
    }

    private void step() {
        int choice = random.nextInt(100);
        if (choice < 4) addLot();
        else if (choice < 20) tellAmount(random.nextInt(5), random.nextInt(5));
        else if (choice < 40) tellSpan();
        else if (choice < 55) tellRatio();
        else if (choice < 62) tellLoads();
        else if (choice < 75) untell();
        else if (choice < 82) runAndAsk();
        else if (choice < 85) ask();
        else askBroken();
    }

    private void addLot() {
        int stock = random.nextInt(8) == 0 ? random.nextInt(13) - 1 : kind > 2 ? 9 - random.nextInt(2) : random.nextInt(10);
        long cents = kind == 1 ? random.nextInt(7) - 3 : kind > 2 ? near(1000) : random.nextInt(2003) - 1001;
        int number = slow.lot(stock, cents);
        same("lot(" + stock + ", " + cents + ")", plans.lot(stock, cents), number);
        if (number >= 0) stocks[number] = stock;
    }

    private int near(int most) {
        int value = most - random.nextInt(4);
        return random.nextBoolean() ? value : -value;
    }

    private void tellAmount(int lot, int what) {
        int v;
        if (kind == 0) v = random.nextInt(203) - 101;
        else if (kind == 1) v = random.nextInt(7) - 2;
        else if (kind == 2) v = random.nextInt(40);
        else v = random.nextInt(6) == 0 ? random.nextInt(201) - 100 : near(100);
        boolean taken = slow.amount(lot, what, v);
        same("amount(" + lot + ", " + what + ", " + v + ")", plans.amount(lot, what, v) ? 1 : 0, taken ? 1 : 0);
        if (taken) amounts[lot][what] = v;
    }

    private void tellSpan() {
        int what = random.nextInt(20) == 0 ? random.nextInt(8) - 1 : random.nextInt(5);
        int size = kind == 1 ? 40 : kind == 2 ? 500 : 2000;
        int low = random.nextInt(20) == 0 ? -100001 + random.nextInt(3) : random.nextInt(size) - (kind == 2 ? 0 : size / 2);
        int high = random.nextInt(20) == 0 ? 99999 + random.nextInt(3) : low - 1 + random.nextInt(size);
        if (random.nextInt(8) == 0) high = low;
        if (what >= 0 && what < 5 && random.nextInt(5) > 0) {
            low = (int) Math.floor(aimed(what)) - random.nextInt(1 + random.nextInt(size / 4));
            high = (int) Math.ceil(aimed(what)) + random.nextInt(1 + random.nextInt(size / 4));
        }
        same("span(" + what + ", " + low + ", " + high + ")", plans.span(what, low, high) ? 1 : 0, slow.span(what, low, high) ? 1 : 0);
    }

    private void tellRatio() {
        int k = random.nextInt(20) == 0 ? random.nextInt(4) - 1 : random.nextInt(2);
        int first = random.nextInt(5);
        int second = random.nextInt(5);
        int low;
        int high;
        int over;
        if (kind > 2) {
            low = 100 - random.nextInt(30);
            high = Math.min(100, low + random.nextInt(30));
            over = 100 - random.nextInt(5);
        } else {
            low = random.nextInt(kind == 1 ? 4 : 40);
            high = random.nextInt(8) == 0 ? low : low - 1 + random.nextInt(kind == 1 ? 6 : 70);
            over = random.nextInt(kind == 1 ? 5 : 60);
        }
        if (aimed(second) > 0 && over > 0 && random.nextInt(5) > 0) {
            double due = Math.min(100, Math.max(0, over * aimed(first) / aimed(second)));
            low = Math.max(0, (int) Math.floor(due) - random.nextInt(5));
            high = Math.min(100, (int) Math.ceil(due) + random.nextInt(5));
        }
        same("ratio(" + k + ", " + first + ", " + second + ", " + low + ", " + high + ", " + over + ")",
            plans.ratio(k, first, second, low, high, over) ? 1 : 0, slow.ratio(k, first, second, low, high, over) ? 1 : 0);
    }

    private void tellLoads() {
        int low = random.nextInt(20) - 1;
        int high = low - 1 + random.nextInt(20);
        if (random.nextInt(3) > 0) {
            low = (int) Math.floor(aimed(-1)) - random.nextInt(3);
            high = (int) Math.ceil(aimed(-1)) + random.nextInt(3);
        }
        same("loads(" + low + ", " + high + ")", plans.loads(low, high) ? 1 : 0, slow.loads(low, high) ? 1 : 0);
    }

    private void untell() {
        int rule = random.nextInt(10) - 1;
        same("untell(" + rule + ")", plans.untell(rule) ? 1 : 0, slow.untell(rule) ? 1 : 0);
    }

    private void runAndAsk() {
        int outcome = slow.run();
        outcomes[outcome]++;
        same("run()", plans.run(), outcome);
        ask();
    }

    private void ask() {
        for (int lot = -1; lot <= 4; lot++) same("best(" + lot + ")", plans.best(lot), slow.best(lot));
        same("cost()", plans.cost(), slow.cost());
        for (int part = -1; part <= 2; part++) same("cut(" + part + ")", plans.cut(part), slow.cut(part));
        same("clashes()", plans.clashes(), slow.clashes());
        for (int rule = -1; rule <= 8; rule++) same("clash(" + rule + ")", plans.clash(rule) ? 1 : 0, slow.clash(rule) ? 1 : 0);
    }

    private void askBroken() {
        int a = random.nextInt(11) - (random.nextInt(9) == 0 ? 1 : 0);
        int b = random.nextInt(8);
        int c = random.nextInt(8);
        int d = random.nextInt(8);
        same("broken(" + a + ", " + b + ", " + c + ", " + d + ")", plans.broken(a, b, c, d), slow.broken(a, b, c, d));
    }

    private void same(String call, long got, long want) {
        told.append(call).append(" -> ").append(want).append('\n');
        if (got == want) return;
        wrong++;
        System.out.println("seed " + seed + ":\n" + told + "but the last one answered " + got);
    }
}
