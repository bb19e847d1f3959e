/**
 * Each sentence of the document's promises that names a boundary has a test of its own here, which
 * bears the promise's number and the sentence's words.
 */
public final class BoundariesOfPromisesTest extends Checks {
    private static final int LEAST = Integer.MIN_VALUE;
    private static final int MOST = Integer.MAX_VALUE;
    /** Numbers that shifts, or a cut to fewer bits, would take for 0 .. 7. */
    private static final int[] WRAPPED = {-32, -31, -25, 8, 31, 32, 33, 37, 39, 64, 256, 65536, 1 << 30, LEAST, LEAST + 1, MOST};

    public static void main(String[] args) {
        newObject();
        lotsAndAmounts();
        rules();
        runAndBest();
        costAndCut();
        clashes();
        brokenMixes();
        end();
    }

    private static void newObject() {
        test("1: no lots", BoundariesOfPromisesTest::noLots);
        test("1: no rules", BoundariesOfPromisesTest::noRules);
        test("1: nothing was found", BoundariesOfPromisesTest::nothingFound);
    }

    private static void lotsAndAmounts() {
        test("2: answers its number", BoundariesOfPromisesTest::lotNumbers);
        test("2: NONE when there are 4", BoundariesOfPromisesTest::lotWhenFull);
        test("2: NONE when these are not such: stock", BoundariesOfPromisesTest::lotOfWrongStock);
        test("2: NONE when these are not such: cents", BoundariesOfPromisesTest::lotOfWrongCents);
        test("3: answers true", BoundariesOfPromisesTest::amountTrue);
        test("3: false when these are not such: lot", BoundariesOfPromisesTest::amountOfWrongLot);
        test("3: false when these are not such: what", BoundariesOfPromisesTest::amountOfWrongWhat);
        test("3: false when these are not such: v", BoundariesOfPromisesTest::amountOfWrongV);
    }

    private static void rules() {
        test("4: low and high of -100000 .. 100000", BoundariesOfPromisesTest::spanAtTheEnds);
        test("4: low at most high", BoundariesOfPromisesTest::spanLowAndHigh);
        test("4: false when these are not such", BoundariesOfPromisesTest::spanWrong);
        test("5: k = 0 or 1", BoundariesOfPromisesTest::ratioK);
        test("5: two whats, perhaps the same", BoundariesOfPromisesTest::ratioSameWhat);
        test("5: low and high of 0 .. 100, low at most high", BoundariesOfPromisesTest::ratioLowAndHigh);
        test("5: over of 1 .. 100", BoundariesOfPromisesTest::ratioOver);
        test("5: false when these are not such", BoundariesOfPromisesTest::ratioWrong);
        test("6: low and high of 0 .. 36, low at most high", BoundariesOfPromisesTest::loadsLowAndHigh);
        test("6: false when these are not such", BoundariesOfPromisesTest::loadsWrong);
        test("7: a rule is told no more", BoundariesOfPromisesTest::untold);
        test("7: false when it was not", BoundariesOfPromisesTest::untellNotTold);
        test("7: false when there is none such", BoundariesOfPromisesTest::untellNoRule);
    }

    private static void runAndBest() {
        test("8: of no lots", BoundariesOfPromisesTest::runOfNoLots);
        test("8: 0 when there is a best mix", BoundariesOfPromisesTest::runFindsOneMix);
        test("8: 1 when there is none but some cut mix suits", BoundariesOfPromisesTest::runFindsOneCut);
        test("8: 2 when none does", BoundariesOfPromisesTest::runFindsNone);
        test("9: NONE when no best mix was found", BoundariesOfPromisesTest::bestOfNoMix);
        test("9: NONE when there is no such lot", BoundariesOfPromisesTest::bestOfNoLot);
        test("9: none of a lot is not NONE", BoundariesOfPromisesTest::bestIsZero);
        test("9: of a lot that came after run()", BoundariesOfPromisesTest::bestOfLaterLot);
    }

    private static void costAndCut() {
        test("10: Long.MIN_VALUE when there is none", BoundariesOfPromisesTest::costOfNoMix);
        test("10: a cost of nothing, of a gain", BoundariesOfPromisesTest::costSigns);
        test("11: a fraction in lowest terms, above 0 below", BoundariesOfPromisesTest::cutLowest);
        test("11: the least, by less than a cent", BoundariesOfPromisesTest::cutByLittle);
        test("11: exactly, in great numbers", BoundariesOfPromisesTest::cutGreat);
        test("11: of all cut mixes that suit, also when no whole one does", BoundariesOfPromisesTest::cutWithoutBest);
        test("11: Long.MIN_VALUE when no cut mix suits", BoundariesOfPromisesTest::cutOfNone);
        test("11: Long.MIN_VALUE when there is no such part", BoundariesOfPromisesTest::cutOfNoPart);
    }

    private static void clashes() {
        test("12: one rule alone", BoundariesOfPromisesTest::clashAlone);
        test("12: the fewest rules", BoundariesOfPromisesTest::clashFewest);
        test("12: of those that are told", BoundariesOfPromisesTest::clashOfTold);
        test("12: the least sum of 2^r", BoundariesOfPromisesTest::clashLeastSum);
        test("12: as many as five", BoundariesOfPromisesTest::clashOfFive);
        test("12: NONE when some cut mix suits", BoundariesOfPromisesTest::clashesOfCut);
        test("12: NONE when run() was not called", BoundariesOfPromisesTest::clashesBeforeRun);
        test("13: only those that clash", BoundariesOfPromisesTest::clashOfOthers);
        test("13: no rule of that number", BoundariesOfPromisesTest::clashOfNoRule);
    }

    private static void brokenMixes() {
        test("14: the first rule, by numbers", BoundariesOfPromisesTest::brokenFirst);
        test("14: as things are", BoundariesOfPromisesTest::brokenAsThingsAre);
        test("14: 8 when it suits", BoundariesOfPromisesTest::brokenSuits);
        test("14: NONE when these are no loads", BoundariesOfPromisesTest::brokenNoLoads);
        test("14: those of lots that there are not must be 0", BoundariesOfPromisesTest::brokenOfNoLots);
        test("14: NONE goes before rules", BoundariesOfPromisesTest::brokenNoneFirst);
    }

    private static void noLots() {
        RecipePlans plans = new RecipePlans();
        for (int lot = 0; lot < 4; lot++) due("amount", plans.amount(lot, 0, 0), false);
        due("a load of lot 0", plans.broken(1, 0, 0, 0), NONE);
        due("a load of lot 1", plans.broken(0, 1, 0, 0), NONE);
        due("a load of lot 2", plans.broken(0, 0, 1, 0), NONE);
        due("a load of lot 3", plans.broken(0, 0, 0, 1), NONE);
        due("the first lot", plans.lot(0, 0), 0);
    }

    private static void noRules() {
        RecipePlans plans = new RecipePlans();
        for (int rule = 0; rule < 8; rule++) due("untell", plans.untell(rule), false);
        due("the mix of nothing", plans.broken(0, 0, 0, 0), 8);
    }

    private static void nothingFound() {
        RecipePlans plans = new RecipePlans();
        dueNothingFound("before anything", plans);
        dueClash("before anything", plans);
        plans.lot(9, 1);
        plans.span(0, 1, 1);
        dueNothingFound("before run()", plans);
        dueClash("before run()", plans);
    }

    private static void lotNumbers() {
        RecipePlans plans = new RecipePlans();
        due("refused", plans.lot(10, 0), NONE);
        due("first", plans.lot(9, 1000), 0);
        due("refused", plans.lot(0, 1001), NONE);
        due("no gap", plans.lot(0, -1000), 1);
        due("alike", plans.lot(0, -1000), 2);
        due("last", plans.lot(9, 0), 3);
    }

    private static void lotWhenFull() {
        RecipePlans plans = withLots(5, 5, 5, 5);
        due("a right one", plans.lot(1, -1), NONE);
        due("a wrong one", plans.lot(10, -1), NONE);
        due("still", plans.lot(0, 0), NONE);
        plans.loads(36, 36);
        due("run", plans.run(), 0);
        due("cost of the four", plans.cost(), 180);
    }

    private static void lotOfWrongStock() {
        RecipePlans plans = new RecipePlans();
        for (int stock : new int[] {-1, 10, 11, -9, LEAST, MOST, 256, 65536}) due("stock " + stock, plans.lot(stock, 0), NONE);
        due("none was added", plans.lot(9, 0), 0);
    }

    private static void lotOfWrongCents() {
        RecipePlans plans = new RecipePlans();
        long[] wrong = {-1001, 1001, LEAST, MOST, Long.MIN_VALUE, Long.MAX_VALUE, 1L << 32, (1L << 32) + 5, -(1L << 32), 1L << 62};
        for (long cents : wrong) due("cents " + cents, plans.lot(1, cents), NONE);
        due("none was added", plans.lot(1, -1000), 0);
        due("the ends are right", plans.lot(1, 1000), 1);
    }

    private static void amountTrue() {
        RecipePlans plans = withLots(0, 0, 0, 0);
        for (int lot = 0; lot < 4; lot++) {
            for (int what = 0; what < 5; what++) {
                due("least", plans.amount(lot, what, -100), true);
                due("most", plans.amount(lot, what, 100), true);
                due("the same", plans.amount(lot, what, 100), true);
                due("none", plans.amount(lot, what, 0), true);
            }
        }
    }

    private static void amountOfWrongLot() {
        RecipePlans plans = withLots(1);
        for (int lot : new int[] {-1, 1, 2, 3, 4, LEAST, MOST}) due("lot " + lot, plans.amount(lot, 0, 7), false);
        plans.lot(9, 1);
        plans.span(0, 0, 0);
        due("no amount was kept for a lot to come", plans.broken(0, 9, 0, 0), 8);
        due("nor for another", plans.broken(9, 0, 0, 0), 8);
        due("now it is there", plans.amount(1, 0, 7), true);
        due("now it holds", plans.broken(0, 1, 0, 0), 0);
    }

    private static void amountOfWrongWhat() {
        RecipePlans plans = withLots(1, 1);
        for (int what : new int[] {-1, 5, 6, 7, LEAST, MOST}) {
            due("what " + what, plans.amount(0, what, 7), false);
            due("what " + what, plans.amount(1, what, 7), false);
        }
        for (int what = 0; what < 5; what++) plans.span(what, 0, 0);
        plans.loads(18, 18);
        due("nothing has changed", plans.broken(9, 9, 0, 0), 8);
        due("run", plans.run(), 0);
        dueMix("nothing has changed", plans, 9, 9);
    }

    private static void amountOfWrongV() {
        RecipePlans plans = withLots(1);
        plans.amount(0, 0, 4);
        for (int v : new int[] {-101, 101, 256, LEAST, MOST}) due("v " + v, plans.amount(0, 0, v), false);
        plans.span(0, 4, 4);
        due("as before", plans.broken(1, 0, 0, 0), 8);
    }

    private static void spanAtTheEnds() {
        for (int what = 0; what < 5; what++) {
            RecipePlans plans = withLots(1);
            due("the widest", plans.span(what, -100000, 100000), true);
            due("kept", plans.broken(0, 0, 0, 0), 8);
            due("lowest", plans.span(what, -100000, -100000), true);
            due("not kept", plans.broken(0, 0, 0, 0), what);
            due("run", plans.run(), 2);
            dueClash("lowest", plans, what);
            due("highest", plans.span(what, 100000, 100000), true);
            due("not kept", plans.broken(9, 0, 0, 0), what);
            due("run", plans.run(), 2);
            dueClash("highest", plans, what);
            due("told", plans.untell(what), true);
        }
    }

    private static void spanLowAndHigh() {
        RecipePlans plans = withLots(1);
        plans.amount(0, 2, -1);
        due("low is high", plans.span(2, -1, -1), true);
        due("just it", plans.broken(1, 0, 0, 0), 8);
        due("low above high", plans.span(2, 0, -1), false);
        due("far above", plans.span(2, 100000, -100000), false);
        due("as before", plans.broken(1, 0, 0, 0), 8);
    }

    private static void spanWrong() {
        RecipePlans plans = withLots(1);
        for (int what : WRAPPED) due("what " + what, plans.span(what, 0, 0), false);
        for (int what : new int[] {-1, 5, 6, 7}) due("what " + what, plans.span(what, 1, 1), false);
        due("low", plans.span(0, -100001, -100001), false);
        due("low", plans.span(0, LEAST, 0), false);
        due("high", plans.span(0, 100001, 100001), false);
        due("high", plans.span(0, 0, MOST), false);
        due("both", plans.span(0, LEAST, MOST), false);
        due("both turned", plans.span(0, MOST, LEAST), false);
        for (int rule = 0; rule < 8; rule++) due("none was told", plans.untell(rule), false);
    }

    private static void ratioK() {
        RecipePlans plans = withLots(1);
        plans.amount(0, 0, 1);
        due("k 0", plans.ratio(0, 0, 1, 0, 0, 1), true);
        due("is rule 5", plans.broken(1, 0, 0, 0), 5);
        due("k 1", plans.ratio(1, 0, 1, 0, 0, 1), true);
        due("rule 5", plans.untell(5), true);
        due("is rule 6", plans.broken(1, 0, 0, 0), 6);
        due("rule 6", plans.untell(6), true);
        for (int k : new int[] {-1, 2, 3, 5, 6, 32, LEAST, MOST}) due("k " + k, plans.ratio(k, 0, 1, 0, 0, 1), false);
        due("none was told", plans.broken(1, 0, 0, 0), 8);
    }

    private static void ratioSameWhat() {
        for (int what = 0; what < 5; what++) {
            RecipePlans plans = withLots(1);
            plans.amount(0, what, 1);
            plans.loads(1, 9);
            due("the same", plans.ratio(0, what, what, 3, 4, 3), true);
            due("3 times it is from 3 times to 4 times it", plans.broken(1, 0, 0, 0), 8);
            due("the same", plans.ratio(0, what, what, 4, 5, 3), true);
            due("3 times it is not 4 times it", plans.broken(1, 0, 0, 0), 5);
            due("run", plans.run(), 2);
            dueClash("but of nothing it is", plans, 5, 7);
        }
    }

    private static void ratioLowAndHigh() {
        RecipePlans plans = withLots(1);
        plans.amount(0, 0, 100);
        plans.amount(0, 1, 1);
        due("highest", plans.ratio(0, 0, 1, 100, 100, 1), true);
        due("100 to 1", plans.broken(1, 0, 0, 0), 8);
        due("widest", plans.ratio(0, 0, 1, 0, 100, 1), true);
        due("100 to 1", plans.broken(1, 0, 0, 0), 8);
        due("less", plans.ratio(0, 0, 1, 0, 99, 1), true);
        due("100 to 1", plans.broken(1, 0, 0, 0), 5);
        due("lowest", plans.ratio(0, 2, 1, 0, 0, 1), true);
        due("none to 1", plans.broken(1, 0, 0, 0), 8);
        due("low above high", plans.ratio(0, 2, 1, 1, 0, 1), false);
        due("low above high", plans.ratio(0, 2, 1, 100, 99, 1), false);
        due("as before", plans.broken(1, 0, 0, 0), 8);
    }

    private static void ratioOver() {
        RecipePlans plans = withLots(1);
        plans.amount(0, 0, 1);
        plans.amount(0, 1, 100);
        due("most", plans.ratio(0, 0, 1, 1, 1, 100), true);
        due("100 times 1", plans.broken(1, 0, 0, 0), 8);
        due("one less", plans.ratio(0, 0, 1, 1, 1, 99), true);
        due("99 times 1", plans.broken(1, 0, 0, 0), 5);
        due("least", plans.ratio(0, 1, 0, 100, 100, 1), true);
        due("once 100", plans.broken(1, 0, 0, 0), 8);
        for (int over : new int[] {0, -1, 101, LEAST, MOST}) due("over " + over, plans.ratio(0, 0, 0, 0, 0, over), false);
        due("as before", plans.broken(1, 0, 0, 0), 8);
    }

    private static void ratioWrong() {
        RecipePlans plans = withLots(1);
        for (int what : new int[] {-1, 5, 6, LEAST, MOST}) {
            due("first " + what, plans.ratio(0, what, 0, 0, 1, 1), false);
            due("second " + what, plans.ratio(0, 0, what, 0, 1, 1), false);
            due("both " + what, plans.ratio(1, what, what, 0, 1, 1), false);
        }
        due("low", plans.ratio(0, 0, 1, -1, 1, 1), false);
        due("low", plans.ratio(0, 0, 1, LEAST, 1, 1), false);
        due("high", plans.ratio(0, 0, 1, 0, 101, 1), false);
        due("high", plans.ratio(0, 0, 1, 101, 101, 1), false);
        due("high", plans.ratio(0, 0, 1, 0, MOST, 1), false);
        due("both below", plans.ratio(0, 0, 1, -2, -1, 1), false);
        due("both turned", plans.ratio(0, 0, 1, MOST, LEAST, 1), false);
        for (int rule = 0; rule < 8; rule++) due("none was told", plans.untell(rule), false);
    }

    private static void loadsLowAndHigh() {
        RecipePlans plans = withLots(1, 1, 1, 1);
        due("the widest", plans.loads(0, 36), true);
        due("none", plans.broken(0, 0, 0, 0), 8);
        due("all", plans.broken(9, 9, 9, 9), 8);
        due("highest", plans.loads(36, 36), true);
        due("all but one", plans.broken(9, 9, 8, 9), 7);
        due("all", plans.broken(9, 9, 9, 9), 8);
        due("low above high", plans.loads(36, 35), false);
        due("as before", plans.broken(9, 9, 9, 9), 8);
        due("lowest", plans.loads(0, 0), true);
        due("none", plans.broken(0, 0, 0, 0), 8);
        due("one", plans.broken(0, 0, 0, 1), 7);
        due("low above high", plans.loads(1, 0), false);
        due("run", plans.run(), 0);
        dueMix("none", plans, 0, 0, 0, 0);
    }

    private static void loadsWrong() {
        RecipePlans plans = withLots(1);
        due("low", plans.loads(-1, 36), false);
        due("low", plans.loads(LEAST, 0), false);
        due("both below", plans.loads(-1, -1), false);
        due("high", plans.loads(0, 37), false);
        due("high", plans.loads(37, 37), false);
        due("high", plans.loads(0, MOST), false);
        due("both turned", plans.loads(MOST, LEAST), false);
        due("none was told", plans.untell(7), false);
    }

    /** All eight rules are told, and one load keeps each. */
    private static RecipePlans withAllRules() {
        RecipePlans plans = withLots(1);
        for (int what = 0; what < 5; what++) {
            plans.amount(0, what, 1);
            plans.span(what, 1, 1);
        }
        plans.ratio(0, 0, 1, 1, 1, 1);
        plans.ratio(1, 0, 2, 1, 1, 1);
        plans.loads(1, 1);
        return plans;
    }

    private static void tellSoThatOneLoadBreaks(RecipePlans plans, int rule) {
        if (rule < 5) due("told", plans.span(rule, 2, 2), true);
        else if (rule < 7) due("told", plans.ratio(rule - 5, 0, 1, 2, 2, 1), true);
        else due("told", plans.loads(2, 2), true);
    }

    private static void untold() {
        for (int rule = 0; rule < 8; rule++) {
            RecipePlans plans = withAllRules();
            tellSoThatOneLoadBreaks(plans, rule);
            due("told", plans.broken(1, 0, 0, 0), rule);
            due("untell", plans.untell(rule), true);
            due("told no more", plans.broken(1, 0, 0, 0), 8);
            due("run", plans.run(), 0);
            dueMix("told no more", plans, 1);
            tellSoThatOneLoadBreaks(plans, rule);
            due("told once more", plans.broken(1, 0, 0, 0), rule);
            due("untell", plans.untell(rule), true);
        }
    }

    private static void untellNotTold() {
        for (int rule = 0; rule < 8; rule++) {
            RecipePlans plans = withAllRules();
            due("told", plans.untell(rule), true);
            due("told no more", plans.untell(rule), false);
            for (int other = 0; other < 8; other++) due("the others still", plans.untell(other), other != rule);
        }
    }

    private static void untellNoRule() {
        RecipePlans plans = withAllRules();
        due("-1", plans.untell(-1), false);
        for (int rule : WRAPPED) due("rule " + rule, plans.untell(rule), false);
        for (int rule = 0; rule < 8; rule++) due("still told", plans.untell(rule), true);
    }

    private static void runOfNoLots() {
        RecipePlans plans = new RecipePlans();
        due("no rule", plans.run(), 0);
        due("costs nothing", plans.cost(), 0);
        dueCut("costs nothing", plans, 0, 1);
        plans.span(1, 0, 0);
        plans.ratio(0, 0, 1, 100, 100, 1);
        plans.loads(0, 0);
        due("rules that nothing keeps", plans.run(), 0);
        plans.span(1, 1, 1);
        due("something of what 1", plans.run(), 2);
        dueClash("something of what 1", plans, 1);
        plans.span(1, -1, -1);
        due("less than nothing of what 1", plans.run(), 2);
        plans.untell(1);
        plans.loads(1, 36);
        due("a load", plans.run(), 2);
        dueClash("a load", plans, 7);
    }

    private static void runFindsOneMix() {
        for (int mix = 0; mix < 10000; mix += 123) {
            int[] loads = {mix / 1000, mix / 100 % 10, mix / 10 % 10, mix % 10};
            RecipePlans plans = withLots(1, -1, 2, 0);
            for (int lot = 0; lot < 4; lot++) {
                plans.amount(lot, lot, 7);
                plans.span(lot, 7 * loads[lot], 7 * loads[lot]);
            }
            due("run", plans.run(), 0);
            dueMix("the only one", plans, loads);
            due("cost", plans.cost(), loads[0] - loads[1] + 2 * loads[2]);
        }
    }

    private static void runFindsOneCut() {
        RecipePlans plans = withLots(1, 1);
        amounts(plans, 0, 100, 99);
        amounts(plans, 1, 98, 96);
        plans.span(0, 249, 249);
        plans.span(1, 243, 243);
        due("just the point 3/2, 1", plans.run(), 1);
        dueCut("just the point 3/2, 1", plans, 5, 2);
        due("no best mix", plans.best(0), NONE);
        plans.span(1, 243, 244);
        due("points up to 42/17, 1/51", plans.run(), 1);
        plans.span(1, 245, 245);
        due("less than none of lot 1", plans.run(), 2);
        dueClash("less than none of lot 1", plans, 0, 1);
    }

    private static void runFindsNone() {
        RecipePlans plans = withLots(1);
        plans.amount(0, 0, 100);
        plans.amount(0, 1, 99);
        plans.span(0, 1, 1);
        plans.span(1, 1, 1);
        due("1/100 is not 1/99", plans.run(), 2);
        dueNothingFound("1/100 is not 1/99", plans);
        plans.amount(0, 1, 100);
        due("but it is 1/100", plans.run(), 1);
        plans.span(0, 901, 902);
        plans.untell(1);
        due("a hundredth too much", plans.run(), 2);
        plans.span(0, 900, 902);
        due("just all", plans.run(), 0);
    }

    private static void bestOfNoMix() {
        RecipePlans plans = withLots(1);
        plans.amount(0, 0, 2);
        due("before run()", plans.best(0), NONE);
        plans.span(0, 3, 3);
        due("only cut", plans.run(), 1);
        due("only cut", plans.best(0), NONE);
        plans.span(0, 99, 99);
        due("none", plans.run(), 2);
        due("none", plans.best(0), NONE);
        plans.span(0, 4, 4);
        due("a best mix", plans.run(), 0);
        due("a best mix", plans.best(0), 2);
        plans.span(0, 3, 3);
        due("only cut, after a best mix", plans.run(), 1);
        due("only cut, after a best mix", plans.best(0), NONE);
    }

    private static void bestOfNoLot() {
        for (int lots = 0; lots <= 4; lots++) {
            RecipePlans plans = new RecipePlans();
            for (int lot = 0; lot < lots; lot++) plans.lot(1 + lot, -1);
            due("run", plans.run(), 0);
            for (int lot = 0; lot < 5; lot++) due("best(" + lot + ") of " + lots, plans.best(lot), lot < lots ? 1 + lot : NONE);
            due("best(-1)", plans.best(-1), NONE);
            for (int lot : WRAPPED) due("best(" + lot + ")", plans.best(lot), NONE);
        }
    }

    private static void bestIsZero() {
        RecipePlans plans = new RecipePlans();
        plans.lot(0, -1);
        plans.lot(9, 1);
        due("run", plans.run(), 0);
        due("no stock", plans.best(0), 0);
        due("no need", plans.best(1), 0);
    }

    /** What run() found stays until the next one: a later lot is in no mix that was found. */
    private static void bestOfLaterLot() {
        RecipePlans plans = withLots(-1);
        due("run", plans.run(), 0);
        due("not there", plans.best(1), NONE);
        plans.lot(9, -1);
        due("not there at run()", plans.best(1), NONE);
        due("run", plans.run(), 0);
        due("there", plans.best(1), 9);
    }

    private static void costOfNoMix() {
        RecipePlans plans = withLots(5);
        plans.amount(0, 0, 2);
        due("before run()", plans.cost(), NOTHING);
        plans.span(0, 4, 4);
        due("run", plans.run(), 0);
        due("a best mix", plans.cost(), 10);
        plans.span(0, 3, 3);
        due("run", plans.run(), 1);
        due("only cut", plans.cost(), NOTHING);
        plans.span(0, 99, 99);
        due("run", plans.run(), 2);
        due("none", plans.cost(), NOTHING);
    }

    private static void costSigns() {
        RecipePlans plans = withLots(3, -3);
        plans.loads(0, 0);
        due("run", plans.run(), 0);
        due("of nothing", plans.cost(), 0);
        plans.loads(18, 18);
        due("run", plans.run(), 0);
        due("even", plans.cost(), 0);
        plans.loads(17, 17);
        due("run", plans.run(), 0);
        due("a gain", plans.cost(), -3);
        plans.untell(7);
        plans.amount(1, 0, 1);
        plans.span(0, 0, 0);
        plans.loads(1, 1);
        due("run", plans.run(), 0);
        due("no gain", plans.cost(), 3);
    }

    /** One lot that holds so much and costs so many cents; just so much of it is asked for. */
    private static RecipePlans oneLot(long cents, int holds, int asked) {
        RecipePlans plans = withLots(cents);
        plans.amount(0, 0, holds);
        plans.span(0, asked, asked);
        plans.run();
        return plans;
    }

    private static void cutLowest() {
        dueCut("70 / 3", oneLot(7, 3, 10), 70, 3);
        dueCut("60 / 4", oneLot(6, 4, 10), 15, 1);
        dueCut("50 / 4", oneLot(5, 4, 10), 25, 2);
        dueCut("-50 / 4", oneLot(-5, 4, 10), -25, 2);
        dueCut("by less than none", oneLot(5, -4, -10), 25, 2);
        dueCut("a gain by less than none", oneLot(-5, -4, -10), -25, 2);
        dueCut("0 / 4", oneLot(0, 4, 10), 0, 1);
        dueCut("nothing of it", oneLot(1000, 97, 0), 0, 1);
        dueCut("1 / 100", oneLot(1, 100, 1), 1, 100);
        dueCut("-1 / 100", oneLot(-1, 100, 1), -1, 100);
        dueCut("1000 / 97", oneLot(1000, 97, 1), 1000, 97);
        dueCut("a whole mix", oneLot(-1000, 100, 900), -9000, 1);
    }

    /** Two lots of which either can give what is asked for; the cheaper one is to be found, in either order. */
    private static void cutByLittle() {
        int[][] pairs = {{7, 3, 5, 2}, {55, 34, 89, 55}, {34, 21, 89, 55}, {97, 98, 98, 99}, {-98, 97, -99, 98}, {-99, 98, -98, 99}, {1, 100, 1, 99}, {2, 1, 201, 100}};
        for (int[] pair : pairs) {
            for (int first = 0; first <= 2; first += 2) {
                int other = 2 - first;
                RecipePlans plans = withLots(pair[first], pair[other]);
                amounts(plans, 0, pair[first + 1], pair[other + 1]);
                plans.span(0, 1, 1);
                plans.run();
                boolean firstLess = pair[0] * pair[3] < pair[2] * pair[1];
                dueCut(pair[0] + "/" + pair[1] + " or " + pair[2] + "/" + pair[3], plans, pair[firstLess ? 0 : 2], pair[firstLess ? 1 : 3]);
            }
        }
    }

    private static void cutGreat() {
        RecipePlans plans = withLots(-341, 81, -215, -569);
        amounts(plans, 0, -90, -91, 100, -92);
        amounts(plans, 1, -99, 89, 98, 90);
        amounts(plans, 2, 100, 95, 90, 93);
        amounts(plans, 3, 90, -95, 97, 92);
        amounts(plans, 4, 97, 91, -92, 91);
        plans.ratio(0, 0, 4, 96, 99, 85);
        plans.ratio(1, 3, 1, 41, 73, 95);
        plans.span(0, -354, 400);
        plans.span(1, -129, 281);
        plans.span(2, 279, 949);
        due("run", plans.run(), 1);
        dueCut("exactly", plans, -10393003500738599L, 10915483423735L);
    }

    private static void cutWithoutBest() {
        RecipePlans plans = withLots(3, 5);
        amounts(plans, 0, 2, 2);
        plans.span(0, 7, 7);
        due("run", plans.run(), 1);
        dueCut("no whole mix suits", plans, 21, 2);
        due("no cost", plans.cost(), NOTHING);
        plans.span(0, 7, 8);
        due("run", plans.run(), 0);
        dueCut("a cut one is cheaper", plans, 21, 2);
        due("than the best whole one", plans.cost(), 12);
    }

    private static void cutOfNone() {
        RecipePlans plans = withLots(1);
        dueCut("before run()", plans, NOTHING, NOTHING);
        due("run", plans.run(), 0);
        dueCut("some", plans, 0, 1);
        plans.span(0, 1, 1);
        dueCut("stays", plans, 0, 1);
        due("run", plans.run(), 2);
        dueCut("none", plans, NOTHING, NOTHING);
    }

    private static void cutOfNoPart() {
        RecipePlans plans = oneLot(1, 2, 1);
        dueCut("1 / 2", plans, 1, 2);
        due("part -1", plans.cut(-1), NOTHING);
        due("part 2", plans.cut(2), NOTHING);
        for (int part : WRAPPED) due("part " + part, plans.cut(part), NOTHING);
    }

    private static void clashAlone() {
        for (int rule = 0; rule < 8; rule++) {
            RecipePlans plans = withLots(1);
            if (rule == 5 || rule == 6) continue;
            if (rule < 5) plans.span(rule, 1, 1);
            else plans.loads(10, 10);
            due("run", plans.run(), 2);
            dueClash("one alone", plans, rule);
        }
        RecipePlans plans = withLots(1);
        plans.amount(0, 0, 1);
        plans.ratio(0, 0, 0, 2, 2, 1);
        plans.ratio(1, 0, 0, 3, 3, 1);
        due("ratios alone never clash, as a mix of nothing keeps them", plans.run(), 0);
    }

    private static void clashFewest() {
        RecipePlans plans = withLots(1);
        plans.amount(0, 0, 1);
        plans.amount(0, 1, 1);
        plans.span(0, 0, 3);
        plans.span(1, 4, 9);
        due("run", plans.run(), 2);
        dueClash("two", plans, 0, 1);
        plans.loads(10, 36);
        due("run", plans.run(), 2);
        dueClash("one, though 128 is more than 3", plans, 7);
    }

    private static void clashOfTold() {
        RecipePlans plans = withLots(1);
        plans.amount(0, 0, 1);
        plans.amount(0, 4, 1);
        plans.span(0, 0, 3);
        plans.span(4, 4, 9);
        plans.loads(4, 9);
        due("run", plans.run(), 2);
        dueClash("rules 0 and 4", plans, 0, 4);
        plans.untell(4);
        due("run", plans.run(), 2);
        dueClash("rule 4 is told no more", plans, 0, 7);
        plans.loads(3, 9);
        due("run", plans.run(), 0);
        dueClash("rule 7 is told again", plans);
    }

    /** What 0 .. 3 hold a load each of one lot; spans 0 and 3 clash, and so do 1 and 2. */
    private static void clashLeastSum() {
        RecipePlans plans = withLots(1, 1);
        amounts(plans, 0, 1, 0);
        amounts(plans, 3, 1, 0);
        amounts(plans, 1, 0, 1);
        amounts(plans, 2, 0, 1);
        plans.span(0, 0, 4);
        plans.span(3, 5, 9);
        due("run", plans.run(), 2);
        dueClash("8 + 1", plans, 0, 3);
        plans.span(1, 0, 4);
        plans.span(2, 5, 9);
        due("run", plans.run(), 2);
        dueClash("2 + 4 is less than 1 + 8", plans, 1, 2);
        plans.untell(2);
        plans.untell(3);
        amounts(plans, 4, 1, 1);
        plans.span(4, 9, 18);
        plans.loads(9, 18);
        plans.ratio(0, 0, 1, 0, 0, 1);
        due("run", plans.run(), 2);
        // rules 0, 1 and 4 clash, and 0, 1 and 7; 1, 4 and 5 too
        dueClash("1 + 2 + 16", plans, 0, 1, 4);
        plans.untell(0);
        due("run", plans.run(), 2);
        dueClash("2 + 16 + 32 is less than 2 + 32 + 128", plans, 1, 4, 5);
        plans.untell(4);
        due("run", plans.run(), 2);
        dueClash("2 + 32 + 128", plans, 1, 5, 7);
    }

    private static RecipePlans fiveThatClash() {
        RecipePlans plans = withLots(0, 0, 0, 0);
        for (int lot = 0; lot < 4; lot++) {
            plans.amount(lot, lot, 1);
            plans.amount(lot, 4, 1);
            plans.span(lot, 5, 9);
        }
        plans.loads(0, 19);
        return plans;
    }

    private static void clashOfFive() {
        RecipePlans plans = fiveThatClash();
        due("run", plans.run(), 2);
        dueClash("five", plans, 0, 1, 2, 3, 7);
        plans.span(4, 0, 19);
        plans.ratio(0, 0, 0, 1, 1, 1);
        due("run", plans.run(), 2);
        dueClash("five, by the lesser sum", plans, 0, 1, 2, 3, 4);
        for (int rule : new int[] {0, 1, 2, 3, 7}) {
            plans = fiveThatClash();
            due("untell", plans.untell(rule), true);
            due("any four can be kept", plans.run(), 0);
        }
    }

    private static void clashesOfCut() {
        RecipePlans plans = withLots(1);
        plans.amount(0, 0, 2);
        plans.span(0, 99, 99);
        due("run", plans.run(), 2);
        dueClash("none suits", plans, 0);
        plans.span(0, 3, 3);
        dueClash("stays", plans, 0);
        due("run", plans.run(), 1);
        dueClash("a cut mix suits", plans);
        plans.span(0, 4, 4);
        due("run", plans.run(), 0);
        dueClash("a whole mix suits", plans);
    }

    private static void clashesBeforeRun() {
        RecipePlans plans = withLots(1);
        plans.span(0, 1, 1);
        due("clashes", plans.clashes(), NONE);
        for (int rule = 0; rule < 8; rule++) due("clash", plans.clash(rule), false);
    }

    private static void clashOfOthers() {
        for (int rule = 0; rule < 5; rule++) {
            RecipePlans plans = withAllRules();
            plans.span(rule, 10, 10);
            due("run", plans.run(), 2);
            dueClash("one of eight that are told", plans, rule);
        }
    }

    private static void clashOfNoRule() {
        RecipePlans plans = fiveThatClash();
        due("run", plans.run(), 2);
        dueClash("five", plans, 0, 1, 2, 3, 7);
        for (int rule : WRAPPED) due("rule " + rule, plans.clash(rule), false);
    }

    private static void brokenFirst() {
        RecipePlans plans = withLots(1);
        for (int what = 0; what < 5; what++) {
            plans.amount(0, what, 1);
            plans.span(what, 1, 1);
        }
        plans.ratio(0, 0, 1, 2, 2, 1);
        plans.ratio(1, 0, 1, 2, 2, 1);
        plans.loads(1, 1);
        for (int rule = 0; rule < 8; rule++) {
            due("the first of those still told", plans.broken(2, 0, 0, 0), rule);
            due("untell", plans.untell(rule), true);
        }
        due("none is told", plans.broken(2, 0, 0, 0), 8);
        for (int rule = 4; rule >= 0; rule--) {
            plans.span(rule, 1, 1);
            due("by numbers, not as they were told", plans.broken(2, 0, 0, 0), rule);
        }
    }

    private static void brokenAsThingsAre() {
        RecipePlans plans = withLots(1);
        plans.run();
        due("no rule", plans.broken(2, 0, 0, 0), 8);
        plans.span(0, 4, 4);
        due("a rule, without run()", plans.broken(2, 0, 0, 0), 0);
        plans.amount(0, 0, 2);
        due("an amount, without run()", plans.broken(2, 0, 0, 0), 8);
        due("no lot 1", plans.broken(2, 1, 0, 0), NONE);
        plans.lot(1, 1);
        due("a lot, without run()", plans.broken(2, 1, 0, 0), 8);
        plans.amount(1, 0, 1);
        due("its amount, without run()", plans.broken(2, 1, 0, 0), 0);
        plans.untell(0);
        due("no rule any more, without run()", plans.broken(2, 1, 0, 0), 8);
    }

    private static void brokenSuits() {
        RecipePlans plans = withAllRules();
        due("all eight are kept", plans.broken(1, 0, 0, 0), 8);
        due("the same again", plans.broken(1, 0, 0, 0), 8);
        due("no rules and no lots", new RecipePlans().broken(0, 0, 0, 0), 8);
    }

    private static int brokenAt(RecipePlans plans, int place, int loads) {
        return plans.broken(place == 0 ? loads : 0, place == 1 ? loads : 0, place == 2 ? loads : 0, place == 3 ? loads : 0);
    }

    private static void brokenNoLoads() {
        RecipePlans plans = new RecipePlans();
        for (int lot = 0; lot < 4; lot++) plans.lot(3 * lot, 1);
        for (int lot = 0; lot < 4; lot++) {
            due("none", brokenAt(plans, lot, 0), 8);
            due("all", brokenAt(plans, lot, 3 * lot), 8);
            due("one more", brokenAt(plans, lot, 3 * lot + 1), NONE);
            due("less than none", brokenAt(plans, lot, -1), NONE);
            due("far less", brokenAt(plans, lot, LEAST), NONE);
            due("far more", brokenAt(plans, lot, MOST), NONE);
        }
        due("sums that wrap round", plans.broken(LEAST, LEAST, 0, 0), NONE);
        due("all far more", plans.broken(MOST, MOST, MOST, MOST), NONE);
    }

    private static void brokenOfNoLots() {
        for (int lots = 0; lots <= 4; lots++) {
            RecipePlans plans = new RecipePlans();
            for (int lot = 0; lot < lots; lot++) plans.lot(9, 1);
            for (int lot = 0; lot < 4; lot++) {
                due("0 of lot " + lot + " of " + lots, brokenAt(plans, lot, 0), 8);
                due("1 of lot " + lot + " of " + lots, brokenAt(plans, lot, 1), lot < lots ? 8 : NONE);
                due("-1 of lot " + lot + " of " + lots, brokenAt(plans, lot, -1), NONE);
            }
        }
    }

    private static void brokenNoneFirst() {
        RecipePlans plans = withLots(1);
        plans.span(0, 5, 5);
        due("a mix that breaks it", plans.broken(1, 0, 0, 0), 0);
        due("no mix", plans.broken(10, 0, 0, 0), NONE);
        due("no mix", plans.broken(1, 0, 0, 1), NONE);
        due("no mix", plans.broken(-1, 1, 0, 0), NONE);
    }
}
