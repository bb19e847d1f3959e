import java.util.ArrayList;
import java.util.List;
import java.util.function.Consumer;
import java.util.function.Supplier;

/**
 * Each sentence of the document's "What it is" and "Terms" that names a boundary has a test of its
 * own here, which bears the sentence's words.
 */
public final class BoundariesOfTermsTest extends Checks {
    public static void main(String[] args) {
        test("used for at most 512 calls", BoundariesOfTermsTest::the512thCall);
        test("one object is not another", BoundariesOfTermsTest::objectsApart);
        test("lots are numbered from 0 on, 4 at most", BoundariesOfTermsTest::numbersOfLots);
        test("a stock of 0 .. 9: none", BoundariesOfTermsTest::stockOfNone);
        test("a stock of 0 .. 9: each", BoundariesOfTermsTest::eachStock);
        test("cents of -1000 .. 1000, below 0 is a gain", BoundariesOfTermsTest::centsAtTheEnds);
        test("amounts of what 0 .. 4, -100 .. 100", BoundariesOfTermsTest::amountsAtTheEnds);
        test("amounts are 0 at first", BoundariesOfTermsTest::amountsAtFirst);
        test("a whole mix takes from 0 to the stock", BoundariesOfTermsTest::wholeWithinStock);
        test("a cut mix takes any numbers from 0 to the stock", BoundariesOfTermsTest::cutWithinStock);
        test("a cut mix may be whole", BoundariesOfTermsTest::cutThatIsWhole);
        test("holds: at the ends", BoundariesOfTermsTest::holdsAtTheEnds);
        test("cost: at the ends", BoundariesOfTermsTest::costAtTheEnds);
        test("rules: none at first", BoundariesOfTermsTest::noRulesAtFirst);
        test("rules: told again, the latest counts", BoundariesOfTermsTest::latestCounts);
        test("0 .. 4: from low to high", BoundariesOfTermsTest::spanEnds);
        test("0 .. 4: from low to high, by cut mixes", BoundariesOfTermsTest::spanEndsOfCuts);
        test("ratios: from low times to high times", BoundariesOfTermsTest::ratioEnds);
        test("ratios: from low times to high times, by cut mixes", BoundariesOfTermsTest::ratioEndsOfCuts);
        test("ratios: none of the second", BoundariesOfTermsTest::ratioToNone);
        test("ratios: none of both, where it costs least", BoundariesOfTermsTest::ratioOfNoneToNone);
        test("ratios: less than none of the second", BoundariesOfTermsTest::ratioToLessThanNone);
        test("ratios: each pair of whats", BoundariesOfTermsTest::ratioOfEachPair);
        test("7: loads together from low to high", BoundariesOfTermsTest::loadsEnds);
        test("7: loads together from low to high, by cut mixes", BoundariesOfTermsTest::loadsEndsOfCuts);
        test("suits: keeps all rules that are told", BoundariesOfTermsTest::suitsAllOrNone);
        test("the best costs least", BoundariesOfTermsTest::costBeforeFewer);
        test("the best is the first by lot 0, then 1, and so on", BoundariesOfTermsTest::firstByEachLot);
        test("the best: the fewer first, not the fewest together", BoundariesOfTermsTest::notFewestTogether);
        test("the best: the fewer first, of lots for nothing and of gains", BoundariesOfTermsTest::fewerForNothing);
        test("a call that is refused changes nothing", BoundariesOfTermsTest::refusedChangesNothing);
        test("what run() found stays", BoundariesOfTermsTest::foundStays);
        test("until the next one", BoundariesOfTermsTest::untilTheNext);
        end();
    }

    private static void the512thCall() {
        RecipePlans plans = new RecipePlans();
        plans.lot(9, 7);
        plans.amount(0, 0, 3);
        for (int call = 3; call <= 509; call++) {
            if (call % 3 == 0) due("span", plans.span(0, 10 + call % 2, 11 + call % 5), true);
            else if (call % 3 == 1) plans.run();
            else plans.broken(call % 10, 0, 0, 0);
        }
        due("call 510", plans.span(0, 10, 12), true);
        due("call 511", plans.run(), 0);
        due("call 512", plans.cut(0), 70);
    }

    private static void objectsApart() {
        RecipePlans one = withLots(1);
        RecipePlans other = new RecipePlans();
        one.amount(0, 0, 1);
        one.span(0, 4, 4);
        due("run of one", one.run(), 0);
        due("the other has no lot", other.broken(1, 0, 0, 0), NONE);
        due("the other has no rule", other.broken(0, 0, 0, 0), 8);
        dueNothingFound("the other", other);
        other.loads(1, 1);
        due("run of the other", other.run(), 2);
        dueMix("one", one, 4);
        dueClash("one", one);
    }

    private static void numbersOfLots() {
        RecipePlans plans = new RecipePlans();
        for (int lot = 0; lot < 4; lot++) {
            due("no such lot yet", plans.amount(lot, 0, 1), false);
            due("its number", plans.lot(1, -1), lot);
            due("now there is", plans.amount(lot, 0, 1), true);
        }
        due("a fifth", plans.lot(1, -1), NONE);
        due("no fifth", plans.amount(4, 0, 1), false);
        due("run", plans.run(), 0);
        dueMix("four", plans, 1, 1, 1, 1);
    }

    private static void stockOfNone() {
        RecipePlans plans = new RecipePlans();
        due("a lot of none", plans.lot(0, -1000), 0);
        plans.amount(0, 0, 100);
        due("none of it", plans.broken(0, 0, 0, 0), 8);
        due("one of it", plans.broken(1, 0, 0, 0), NONE);
        due("run", plans.run(), 0);
        dueMix("none is taken", plans, 0);
        dueCut("none can be cut", plans, 0, 1);
        plans.span(0, 1, 100);
        due("run", plans.run(), 2);
        dueClash("it holds nothing", plans, 0);
    }

    private static void eachStock() {
        for (int stock = 0; stock <= 9; stock++) {
            RecipePlans plans = new RecipePlans();
            due("a lot", plans.lot(stock, -1), 0);
            due("all of it", plans.broken(stock, 0, 0, 0), 8);
            due("one more", plans.broken(stock + 1, 0, 0, 0), NONE);
            due("run", plans.run(), 0);
            dueMix("all of it", plans, stock);
            dueCut("all of it", plans, -stock, 1);
        }
    }

    private static void centsAtTheEnds() {
        RecipePlans plans = new RecipePlans();
        due("the least", plans.lot(2, -1000), 0);
        due("the most", plans.lot(3, 1000), 1);
        due("a gain of one", plans.lot(4, -1), 2);
        due("for nothing", plans.lot(5, 0), 3);
        due("run", plans.run(), 0);
        dueMix("gains are taken", plans, 2, 0, 4, 0);
        due("cost", plans.cost(), -2004);
        plans.loads(12, 12);
        due("run", plans.run(), 0);
        dueMix("then what is free, then the dear", plans, 2, 1, 4, 5);
        due("cost", plans.cost(), -1004);
    }

    private static void amountsAtTheEnds() {
        for (int what = 0; what < 5; what++) {
            RecipePlans plans = withLots(1);
            for (int v : new int[] {-100, -99, 99, 100}) {
                due("amount " + v, plans.amount(0, what, v), true);
                plans.span(what, v, v);
                due("a load", plans.broken(1, 0, 0, 0), 8);
                due("two loads", plans.broken(2, 0, 0, 0), what);
                due("run", plans.run(), 0);
                dueMix("a load", plans, 1);
            }
            due("amount 101", plans.amount(0, what, 101), false);
            due("amount -101", plans.amount(0, what, -101), false);
            due("still 100", plans.broken(1, 0, 0, 0), 8);
        }
    }

    private static void amountsAtFirst() {
        RecipePlans plans = withLots(-1, -1, -1, -1);
        for (int what = 0; what < 5; what++) plans.span(what, 0, 0);
        due("nothing is held", plans.broken(9, 9, 9, 9), 8);
        due("run", plans.run(), 0);
        dueMix("all are taken", plans, 9, 9, 9, 9);
    }

    private static void wholeWithinStock() {
        RecipePlans plans = new RecipePlans();
        plans.lot(3, 5);
        plans.amount(0, 0, 10);
        plans.span(0, 30, 30);
        due("to the stock", plans.run(), 0);
        dueMix("to the stock", plans, 3);
        plans.span(0, 40, 40);
        due("beyond the stock", plans.run(), 2);
        plans.span(0, 0, 0);
        due("from 0", plans.run(), 0);
        dueMix("from 0", plans, 0);
        plans.span(0, -10, -10);
        due("below 0", plans.run(), 2);
    }

    private static void cutWithinStock() {
        RecipePlans plans = new RecipePlans();
        plans.lot(3, 5);
        plans.amount(0, 0, 10);
        plans.span(0, 29, 29);
        due("just below the stock", plans.run(), 1);
        dueCut("just below the stock", plans, 29, 2);
        plans.span(0, 31, 31);
        due("just beyond the stock", plans.run(), 2);
        plans.span(0, 1, 1);
        due("just above 0", plans.run(), 1);
        dueCut("just above 0", plans, 1, 2);
        plans.span(0, -1, -1);
        due("just below 0", plans.run(), 2);
    }

    private static void cutThatIsWhole() {
        RecipePlans plans = withLots(5, -3);
        plans.loads(9, 9);
        due("run", plans.run(), 0);
        dueMix("the best", plans, 0, 9);
        dueCut("is the cheapest cut one too", plans, plans.cost(), 1);
    }

    private static void holdsAtTheEnds() {
        for (int sign = -1; sign <= 1; sign += 2) {
            RecipePlans plans = withLots(1, 1, 1, 1);
            amounts(plans, 4, 100 * sign, 100 * sign, 100 * sign, 100 * sign);
            plans.span(4, 3600 * sign, 3600 * sign);
            due("all loads", plans.broken(9, 9, 9, 9), 8);
            due("one less", plans.broken(9, 9, 9, 8), 4);
            due("run", plans.run(), 0);
            dueMix("all loads", plans, 9, 9, 9, 9);
            plans.span(4, sign < 0 ? -100000 : 3601, sign < 0 ? -3601 : 100000);
            due("beyond", plans.broken(9, 9, 9, 9), 4);
            due("run", plans.run(), 2);
        }
    }

    private static void costAtTheEnds() {
        RecipePlans plans = withLots(1000, 1000, 1000, 1000);
        plans.loads(36, 36);
        due("run", plans.run(), 0);
        due("the most", plans.cost(), 36000);
        dueCut("the most", plans, 36000, 1);
        plans = withLots(-1000, -1000, -1000, -1000);
        due("run", plans.run(), 0);
        due("the least", plans.cost(), -36000);
        dueCut("the least", plans, -36000, 1);
    }

    private static void noRulesAtFirst() {
        RecipePlans plans = withLots(-1, 1);
        for (int what = 0; what < 5; what++) amounts(plans, what, 100, -100);
        for (int rule = 0; rule < 8; rule++) due("not told", plans.untell(rule), false);
        due("any mix suits", plans.broken(9, 0, 0, 0), 8);
        due("any mix suits", plans.broken(0, 9, 0, 0), 8);
        due("run", plans.run(), 0);
        dueMix("no rule in the way", plans, 9, 0);
    }

    private static void latestCounts() {
        RecipePlans plans = withLots(1);
        for (int what = 0; what < 5; what++) plans.amount(0, what, 1 + what);
        for (int what = 0; what < 5; what++) {
            plans.span(what, 0, 0);
            plans.span(what, 2 + 2 * what, 2 + 2 * what);
        }
        for (int k = 0; k < 2; k++) {
            plans.ratio(k, 0, 1, 0, 0, 1);
            plans.ratio(k, 3, 1, 2, 2, 1);
        }
        plans.loads(0, 0);
        plans.loads(2, 2);
        due("by the latest", plans.broken(2, 0, 0, 0), 8);
        due("not by the first", plans.broken(0, 0, 0, 0), 0);
        due("run", plans.run(), 0);
        dueMix("by the latest", plans, 2);
        for (int rule = 0; rule < 8; rule++) {
            due("told once, however often", plans.untell(rule), true);
            due("told once, however often", plans.untell(rule), false);
        }
    }

    private static void spanEnds() {
        for (int what = 0; what < 5; what++) {
            RecipePlans plans = withLots(1);
            plans.amount(0, what, 2);
            plans.span(what, 4, 8);
            int[] wanted = {what, what, 8, 8, 8, what};
            for (int loads = 0; loads < wanted.length; loads++) due(loads + " loads", plans.broken(loads, 0, 0, 0), wanted[loads]);
            due("run", plans.run(), 0);
            dueMix("low is kept", plans, 2);
            plans = withLots(-1);
            plans.amount(0, what, 2);
            plans.span(what, 4, 8);
            due("run", plans.run(), 0);
            dueMix("high is kept", plans, 4);
            plans.span(what, 5, 5);
            due("between two loads", plans.run(), 1);
        }
    }

    private static void spanEndsOfCuts() {
        for (int what = 0; what < 5; what++) {
            RecipePlans plans = withLots(6);
            plans.amount(0, what, 4);
            plans.span(what, 5, 7);
            due("run", plans.run(), 1);
            dueCut("low is kept", plans, 15, 2);
            plans = withLots(-6);
            plans.amount(0, what, 4);
            plans.span(what, 5, 7);
            due("run", plans.run(), 1);
            dueCut("high is kept", plans, -21, 2);
        }
    }

    /** Lot 0 holds 3 of what 0 a load, lot 1 holds 2 of what 1; 4 times 3a is from 6 times to 9 times 2b. */
    private static RecipePlans withRatio(int k, long cents, long otherCents) {
        RecipePlans plans = withLots(cents, otherCents);
        plans.amount(0, 0, 3);
        plans.amount(1, 1, 2);
        due("ratio", plans.ratio(k, 0, 1, 6, 9, 4), true);
        return plans;
    }

    private static void ratioEnds() {
        for (int k = 0; k < 2; k++) {
            RecipePlans plans = withRatio(k, 1, 1);
            due("below low", plans.broken(3, 4, 0, 0), 5 + k);
            due("low", plans.broken(4, 4, 0, 0), 8);
            due("between", plans.broken(5, 4, 0, 0), 8);
            due("high", plans.broken(6, 4, 0, 0), 8);
            due("above high", plans.broken(7, 4, 0, 0), 5 + k);
            plans = withRatio(k, 10, -1);
            plans.loads(8, 18);
            due("run", plans.run(), 0);
            dueMix("low is kept", plans, 4, 4);
            plans = withRatio(k, -1, 10);
            plans.loads(10, 18);
            due("run", plans.run(), 0);
            dueMix("high is kept", plans, 6, 4);
        }
    }

    private static void ratioEndsOfCuts() {
        for (int k = 0; k < 2; k++) {
            RecipePlans plans = withRatio(k, 10, -1);
            plans.loads(7, 7);
            due("run", plans.run(), 0);
            dueMix("a whole one", plans, 4, 3);
            dueCut("low is kept, by 7/2 of each", plans, 63, 2);
            plans = withRatio(k, -1, 10);
            plans.loads(7, 7);
            due("run", plans.run(), 0);
            dueCut("high is kept, by 21/5 and 14/5", plans, 119, 5);
        }
    }

    private static void ratioToNone() {
        RecipePlans plans = withLots(-1, 1);
        amounts(plans, 0, 1, -1);
        plans.ratio(0, 0, 1, 0, 100, 1);
        due("none of both", plans.broken(0, 0, 0, 0), 8);
        due("none of both, by loads that come to nothing", plans.broken(7, 7, 0, 0), 8);
        due("something to none", plans.broken(1, 0, 0, 0), 5);
        due("less than none to none", plans.broken(0, 1, 0, 0), 5);
        plans.loads(7, 7);
        due("run", plans.run(), 1);
        dueCut("half of each", plans, 0, 1);
        plans.span(0, 1, 1);
        due("run", plans.run(), 2);
        dueClash("something to none", plans, 0, 5);
    }

    /** a - b is from b - c to 2(b - c): the cheapest cut mix is where both come to nothing. */
    private static void ratioOfNoneToNone() {
        for (int k = 0; k < 2; k++) {
            RecipePlans plans = withLots(4, 3, 3);
            amounts(plans, 0, 1, -1, 0);
            amounts(plans, 1, 0, 1, -1);
            plans.ratio(k, 0, 1, 1, 2, 1);
            plans.loads(10, 10);
            due("run", plans.run(), 0);
            dueMix("b - c is 1", plans, 5, 3, 2);
            dueCut("10/3 of each", plans, 100, 3);
            plans.loads(9, 9);
            due("run", plans.run(), 0);
            dueMix("3 of each", plans, 3, 3, 3);
        }
    }

    private static void ratioToLessThanNone() {
        RecipePlans plans = withLots(1);
        plans.amount(0, 0, -3);
        plans.amount(0, 1, -2);
        plans.ratio(1, 0, 1, 1, 2, 1);
        due("low times it is above high times it", plans.broken(1, 0, 0, 0), 6);
        plans.loads(1, 9);
        due("run", plans.run(), 2);
        dueClash("none but the mix of nothing", plans, 6, 7);
        plans.ratio(1, 0, 1, 3, 3, 2);
        due("low times it is high times it", plans.broken(1, 0, 0, 0), 8);
        due("run", plans.run(), 0);
        dueMix("low times it is high times it", plans, 1);
    }

    private static void ratioOfEachPair() {
        for (int first = 0; first < 5; first++) {
            for (int second = 0; second < 5; second++) {
                RecipePlans plans = withLots(1);
                for (int what = 0; what < 5; what++) plans.amount(0, what, 10 + what);
                plans.ratio(0, first, second, 10 + first, 10 + first, 10 + second);
                due("just that ratio", plans.broken(1, 0, 0, 0), 8);
                plans.ratio(0, first, second, 0, 9 + first, 10 + second);
                due("below that ratio", plans.broken(1, 0, 0, 0), 5);
                plans.ratio(0, first, second, 11 + first, 100, 10 + second);
                due("above that ratio", plans.broken(1, 0, 0, 0), 5);
            }
        }
    }

    private static void loadsEnds() {
        RecipePlans plans = withLots(2, 1);
        plans.loads(11, 13);
        due("10 loads", plans.broken(4, 6, 0, 0), 7);
        due("11 loads", plans.broken(4, 7, 0, 0), 8);
        due("12 loads", plans.broken(9, 3, 0, 0), 8);
        due("13 loads", plans.broken(4, 9, 0, 0), 8);
        due("14 loads", plans.broken(5, 9, 0, 0), 7);
        due("run", plans.run(), 0);
        dueMix("low is kept", plans, 2, 9);
        plans = withLots(-1, -2);
        plans.loads(11, 13);
        due("run", plans.run(), 0);
        dueMix("high is kept", plans, 4, 9);
    }

    private static void loadsEndsOfCuts() {
        RecipePlans plans = withLots(2);
        plans.amount(0, 0, 2);
        plans.span(0, 3, 5);
        plans.loads(2, 2);
        due("run", plans.run(), 0);
        dueCut("low is kept", plans, 4, 1);
        plans.span(0, 3, 3);
        due("run", plans.run(), 2);
        dueClash("a load and a half is not two", plans, 0, 7);
        plans.loads(1, 2);
        due("run", plans.run(), 1);
        dueCut("between", plans, 3, 1);
        plans.loads(0, 1);
        due("run", plans.run(), 2);
    }

    private static void suitsAllOrNone() {
        RecipePlans plans = withLots(1);
        for (int what = 0; what < 5; what++) {
            plans.amount(0, what, 1);
            plans.span(what, 3, 3);
        }
        plans.ratio(0, 0, 1, 1, 1, 1);
        plans.ratio(1, 2, 3, 1, 1, 1);
        plans.loads(3, 3);
        due("all are kept", plans.broken(3, 0, 0, 0), 8);
        due("run", plans.run(), 0);
        dueMix("all are kept", plans, 3);
        for (int rule = 0; rule < 8; rule++) oneIsNotKept(plans, rule);
    }

    /** Tells one of the rules otherwise, asks, and tells it as it was. */
    private static void oneIsNotKept(RecipePlans plans, int rule) {
        if (rule < 5) plans.span(rule, 4, 4);
        else if (rule < 7) plans.ratio(rule - 5, 0, 1, 2, 2, 1);
        else plans.loads(4, 4);
        due("one is not kept", plans.broken(3, 0, 0, 0), rule);
        due("run with one not kept", plans.run(), 2);
        if (rule < 5) plans.span(rule, 3, 3);
        else if (rule < 7) plans.ratio(rule - 5, 0, 1, 1, 1, 1);
        else plans.loads(3, 3);
    }

    private static void costBeforeFewer() {
        RecipePlans plans = withLots(999, 1000);
        plans.loads(1, 1);
        due("run", plans.run(), 0);
        dueMix("a cent less", plans, 1, 0);
        plans = withLots(-1, 0, 1, -1000);
        plans.loads(0, 10);
        due("run", plans.run(), 0);
        dueMix("a cent less", plans, 1, 0, 0, 9);
    }

    private static void firstByEachLot() {
        for (int lot = 0; lot < 3; lot++) {
            for (int later = lot + 1; later < 4; later++) {
                RecipePlans plans = withLots(5, 5, 5, 5);
                plans.amount(lot, 0, 1);
                plans.amount(later, 0, 1);
                plans.span(0, 3, 3);
                due("run", plans.run(), 0);
                int[] wanted = new int[4];
                wanted[later] = 3;
                dueMix("lot " + later + " rather than " + lot, plans, wanted);
            }
        }
    }

    private static void notFewestTogether() {
        RecipePlans plans = withLots(8, 2);
        amounts(plans, 0, 4, 1);
        plans.span(0, 8, 8);
        due("run", plans.run(), 0);
        dueMix("eight loads, but none of lot 0", plans, 0, 8);
        plans = withLots(1, 8, 2);
        amounts(plans, 0, 0, 4, 1);
        amounts(plans, 1, 1, 0, 0);
        plans.span(0, 8, 8);
        plans.span(1, 2, 9);
        due("run", plans.run(), 0);
        dueMix("lot 0 as it must be, then none of lot 1", plans, 2, 0, 8);
    }

    private static void fewerForNothing() {
        RecipePlans plans = withLots(0, 0, 0, 0);
        due("run", plans.run(), 0);
        dueMix("none is needed", plans, 0, 0, 0, 0);
        plans.loads(10, 36);
        due("run", plans.run(), 0);
        dueMix("the last lots first", plans, 0, 0, 1, 9);
        plans = withLots(-5, -5, -5);
        plans.loads(0, 11);
        due("run", plans.run(), 0);
        dueMix("gains alike", plans, 0, 2, 9);
        plans = withLots(-1, 1);
        amounts(plans, 0, 1, -1);
        plans.span(0, 0, 0);
        due("run", plans.run(), 0);
        dueMix("a gain that is lost again", plans, 0, 0);
    }

    /** Objects with two lots that found a best mix, only a cut one, or a clash; and one with four lots. */
    private static List<Supplier<RecipePlans>> states() {
        List<Supplier<RecipePlans>> states = new ArrayList<>();
        states.add(() -> afterRun(2, 2, 4, 0));
        states.add(() -> afterRun(2, 3, 3, 1));
        states.add(() -> afterRun(2, 9, 9, 2));
        states.add(() -> afterRun(4, 2, 4, 0));
        return states;
    }

    private static RecipePlans afterRun(int lots, int low, int high, int outcome) {
        RecipePlans plans = new RecipePlans();
        for (int lot = 0; lot < lots; lot++) {
            plans.lot(2, 3 + lot);
            plans.amount(lot, 0, 2);
            plans.amount(lot, 1, 1 + lot);
        }
        plans.span(0, low, high);
        plans.ratio(0, 1, 0, 0, 90, 50);
        plans.loads(0, 30);
        due("run", plans.run(), outcome);
        return plans;
    }

    /** All that an object answers of what was found. */
    private static String found(RecipePlans plans) {
        StringBuilder text = new StringBuilder();
        for (int lot = -1; lot <= 4; lot++) text.append(plans.best(lot)).append(' ');
        text.append(plans.cost()).append(' ').append(plans.cut(0)).append('/').append(plans.cut(1));
        text.append(" clashes ").append(plans.clashes()).append(':');
        for (int rule = 0; rule < 8; rule++) text.append(plans.clash(rule) ? '1' : '0');
        return text.toString();
    }

    /** All that an object answers of how things are, and of what it then finds. */
    private static String things(RecipePlans plans) {
        StringBuilder text = new StringBuilder();
        for (int mix = 0; mix < 81; mix++) text.append(plans.broken(mix / 27, mix / 9 % 3, mix / 3 % 3, mix % 3)).append(' ');
        text.append("run ").append(plans.run()).append(' ').append(found(plans));
        for (int lot = 0; lot < 4; lot++) text.append(plans.amount(lot, 0, 1));
        for (int rule = 0; rule < 8; rule++) text.append(plans.untell(rule));
        return text.append(plans.lot(1, 1)).toString();
    }

    private static void refusedChangesNothing() {
        List<Consumer<RecipePlans>> calls = refusedCalls();
        for (Supplier<RecipePlans> state : states()) {
            String wasFound = found(state.get());
            String were = things(state.get());
            for (int i = 0; i < calls.size(); i++) {
                RecipePlans plans = state.get();
                calls.get(i).accept(plans);
                if (!found(plans).equals(wasFound)) fail("refused call " + i + " changes what was found");
                if (!things(plans).equals(were)) fail("refused call " + i + " changes how things are");
            }
        }
    }

    private static List<Consumer<RecipePlans>> refusedCalls() {
        List<Consumer<RecipePlans>> calls = new ArrayList<>();
        for (int stock : new int[] {-1, 10}) calls.add(p -> due("lot", p.lot(stock, 1), NONE));
        for (long cents : new long[] {-1001, 1001}) calls.add(p -> due("lot", p.lot(1, cents), NONE));
        for (int lot : new int[] {-1, 4}) calls.add(p -> due("amount", p.amount(lot, 0, 50), false));
        for (int what : new int[] {-1, 5}) {
            calls.add(p -> due("amount", p.amount(0, what, 50), false));
            calls.add(p -> due("span", p.span(what, 50, 50), false));
            calls.add(p -> due("ratio", p.ratio(0, what, 0, 50, 50, 1), false));
            calls.add(p -> due("ratio", p.ratio(0, 0, what, 50, 50, 1), false));
        }
        for (int v : new int[] {-101, 101}) calls.add(p -> due("amount", p.amount(0, 0, v), false));
        calls.add(p -> due("span", p.span(0, -100001, 0), false));
        calls.add(p -> due("span", p.span(0, 50, 100001), false));
        calls.add(p -> due("span", p.span(0, 51, 50), false));
        for (int k : new int[] {-1, 2}) calls.add(p -> due("ratio", p.ratio(k, 0, 1, 50, 50, 1), false));
        calls.add(p -> due("ratio", p.ratio(0, 0, 1, -1, 0, 1), false));
        calls.add(p -> due("ratio", p.ratio(0, 0, 1, 50, 101, 1), false));
        calls.add(p -> due("ratio", p.ratio(0, 0, 1, 51, 50, 1), false));
        for (int over : new int[] {0, 101}) calls.add(p -> due("ratio", p.ratio(0, 0, 1, 50, 50, over), false));
        calls.add(p -> due("loads", p.loads(-1, 0), false));
        calls.add(p -> due("loads", p.loads(30, 37), false));
        calls.add(p -> due("loads", p.loads(31, 30), false));
        for (int rule : new int[] {-1, 1, 8, 32}) calls.add(p -> due("untell", p.untell(rule), false));
        calls.add(p -> due("best", p.best(4), NONE));
        calls.add(p -> due("cut", p.cut(2), NOTHING));
        calls.add(p -> due("clash", p.clash(8), false));
        calls.add(p -> due("broken", p.broken(3, 0, 0, 0), NONE));
        return calls;
    }

    private static void foundStays() {
        List<Consumer<RecipePlans>> calls = new ArrayList<>();
        calls.add(p -> p.lot(9, -1000));
        calls.add(p -> due("amount", p.amount(0, 0, -100), true));
        calls.add(p -> due("span", p.span(0, 1, 1), true));
        calls.add(p -> due("span", p.span(4, 0, 0), true));
        calls.add(p -> due("ratio", p.ratio(0, 0, 0, 0, 0, 1), true));
        calls.add(p -> due("ratio", p.ratio(1, 0, 0, 0, 0, 1), true));
        calls.add(p -> due("loads", p.loads(1, 1), true));
        for (int rule : new int[] {0, 5, 7}) calls.add(p -> due("untell", p.untell(rule), true));
        calls.add(p -> p.broken(1, 1, 0, 0));
        for (Supplier<RecipePlans> state : states()) {
            String wasFound = found(state.get());
            for (int i = 0; i < calls.size(); i++) {
                RecipePlans plans = state.get();
                calls.get(i).accept(plans);
                if (!found(plans).equals(wasFound)) fail("call " + i + " changes what was found");
            }
        }
    }

    private static void untilTheNext() {
        int[][] spans = {{2, 4}, {3, 3}, {9, 9}};
        for (int before = 0; before < 3; before++) {
            for (int after = 0; after < 3; after++) {
                RecipePlans plans = afterRun(2, spans[before][0], spans[before][1], before);
                plans.span(0, spans[after][0], spans[after][1]);
                due("the next run", plans.run(), after);
                String wanted = found(afterRun(2, spans[after][0], spans[after][1], after));
                if (!found(plans).equals(wanted)) fail(found(plans) + " was found, due is " + wanted);
            }
        }
    }
}
