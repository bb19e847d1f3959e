/** What the tests of single answers have in common: each answer that is not as due is told and counted. */
abstract class Checks {
    static final int NONE = RecipePlans.NONE;
    static final long NOTHING = Long.MIN_VALUE;
    private static int wrong = 0;
    private static int tests = 0;
    private static String under = "";

    Checks() {
    }

    /** Runs a test under the words that it holds the class to; it may not throw. */
    static void test(String words, Runnable body) {
        under = words;
        tests++;
        try {
            body.run();
        } catch (RuntimeException e) {
            fail("throws " + e);
        }
    }

    static void end() {
        System.out.println(tests + " tests, " + (wrong == 0 ? "all answers are as due" : wrong + " answers are not as due"));
        if (wrong != 0) System.exit(1);
    }

    static void fail(String what) {
        wrong++;
        System.out.println("[" + under + "] " + what);
    }

    static void due(String what, long got, long want) {
        if (got != want) fail(what + " is " + got + ", due is " + want);
    }

    static void due(String what, boolean got, boolean want) {
        due(what, got ? 1 : 0, want ? 1 : 0);
    }

    static void dueNothingFound(String when, RecipePlans plans) {
        for (int lot = -1; lot <= 4; lot++) due(when + ": best(" + lot + ")", plans.best(lot), NONE);
        due(when + ": cost", plans.cost(), NOTHING);
        for (int part = -1; part <= 2; part++) due(when + ": cut(" + part + ")", plans.cut(part), NOTHING);
    }

    static void dueClash(String when, RecipePlans plans, int... rules) {
        due(when + ": clashes", plans.clashes(), rules.length == 0 ? NONE : rules.length);
        for (int rule = -1; rule <= 8; rule++) {
            boolean member = false;
            for (int r : rules) member |= r == rule;
            due(when + ": clash(" + rule + ")", plans.clash(rule), member);
        }
    }

    static void dueCut(String when, RecipePlans plans, long above, long below) {
        due(when + ": cut(0)", plans.cut(0), above);
        due(when + ": cut(1)", plans.cut(1), below);
    }

    static void dueMix(String when, RecipePlans plans, int... loads) {
        for (int lot = 0; lot < loads.length; lot++) due(when + ": best(" + lot + ")", plans.best(lot), loads[lot]);
        due(when + ": best of no lot", plans.best(loads.length), NONE);
    }

    /** Lots with stock 9 and these cents. */
    static RecipePlans withLots(long... cents) {
        RecipePlans plans = new RecipePlans();
        for (long c : cents) plans.lot(9, c);
        return plans;
    }

    static void amounts(RecipePlans plans, int what, int... amounts) {
        for (int lot = 0; lot < amounts.length; lot++) due("amount", plans.amount(lot, what, amounts[lot]), true);
    }
}
