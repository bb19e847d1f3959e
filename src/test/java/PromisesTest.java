import java.lang.reflect.Member;
import java.lang.reflect.Modifier;
import java.util.ArrayList;
import java.util.List;
import java.util.TreeSet;

/** Each promise of the document: ordinary inputs, the edges that it names, and wrong inputs. */
public final class PromisesTest extends Checks {
    private static final int[] WILD = {Integer.MIN_VALUE, -100002, -101, -1, 0, 1, 4, 5, 8, 10, 101, 100002, Integer.MAX_VALUE};

    public static void main(String[] args) {
        test("the public face", PromisesTest::face);
        test("1: a new object", PromisesTest::aNewObject);
        test("2: lot", PromisesTest::lot);
        test("3: amount", PromisesTest::amount);
        test("4: span", PromisesTest::span);
        test("5: ratio", PromisesTest::ratio);
        test("6: loads", PromisesTest::loads);
        test("7: untell", PromisesTest::untell);
        test("8: run", PromisesTest::run);
        test("9: best", PromisesTest::best);
        test("10: cost", PromisesTest::cost);
        test("11: cut", PromisesTest::cut);
        test("11: cut, great numbers", PromisesTest::cutOfGreatNumbers);
        test("12: clashes", PromisesTest::clashes);
        test("13: clash", PromisesTest::clash);
        test("14: broken", PromisesTest::broken);
        test("what run() found stays", PromisesTest::foundStays);
        test("wild inputs", PromisesTest::wildInputs);
        test("a full life", PromisesTest::fullLife);
        end();
    }

    private static void face() {
        Class<?> c = RecipePlans.class;
        List<Member> members = new ArrayList<>();
        members.addAll(List.of(c.getDeclaredFields()));
        members.addAll(List.of(c.getDeclaredMethods()));
        members.addAll(List.of(c.getDeclaredConstructors()));
        TreeSet<String> seen = new TreeSet<>();
        for (Member m : members) {
            if (!Modifier.isPrivate(m.getModifiers()) && !m.isSynthetic()) seen.add(m.toString());
        }
        String p = "RecipePlans.";
        TreeSet<String> wanted = new TreeSet<>(List.of(
            "public static final int " + p + "NONE", "public RecipePlans()",
            "public int " + p + "lot(int,long)", "public boolean " + p + "amount(int,int,int)",
            "public boolean " + p + "span(int,int,int)", "public boolean " + p + "ratio(int,int,int,int,int,int)",
            "public boolean " + p + "loads(int,int)", "public boolean " + p + "untell(int)",
            "public int " + p + "run()", "public int " + p + "best(int)", "public long " + p + "cost()",
            "public long " + p + "cut(int)", "public int " + p + "clashes()", "public boolean " + p + "clash(int)",
            "public int " + p + "broken(int,int,int,int)"));
        if (!seen.equals(wanted)) fail("the face is " + seen);
        due("the class is public and final", Modifier.isFinal(c.getModifiers()) && Modifier.isPublic(c.getModifiers()), true);
        due("NONE", NONE, -1);
    }

    private static void aNewObject() {
        RecipePlans plans = new RecipePlans();
        dueNothingFound("a new object", plans);
        dueClash("a new object", plans);
        for (int rule = 0; rule < 8; rule++) due("untell on a new object", plans.untell(rule), false);
        due("the empty mix suits a new object", plans.broken(0, 0, 0, 0), 8);
        due("a new object has no lot", plans.amount(0, 0, 1), false);
        due("run of a new object", plans.run(), 0);
        due("it costs nothing", plans.cost(), 0);
        dueCut("a new object", plans, 0, 1);
        dueMix("a new object", plans);
    }

    private static void lot() {
        RecipePlans plans = new RecipePlans();
        due("stock -1", plans.lot(-1, 0), NONE);
        due("stock 10", plans.lot(10, 0), NONE);
        due("cents 1001", plans.lot(0, 1001), NONE);
        due("cents -1001", plans.lot(0, -1001), NONE);
        due("cents that are 0 as an int", plans.lot(0, 1L << 32), NONE);
        due("least cents of all", plans.lot(0, Long.MIN_VALUE), NONE);
        due("stock 0", plans.lot(0, 1000), 0);
        due("stock 9", plans.lot(9, -1000), 1);
        due("lot 2", plans.lot(4, 0), 2);
        due("lot 3", plans.lot(1, -1), 3);
        due("lot 4", plans.lot(1, 1), NONE);
        due("run", plans.run(), 0);
        dueMix("lots", plans, 0, 9, 0, 1);
        due("cost", plans.cost(), -9001);
    }

    private static void amount() {
        RecipePlans plans = withLots(1, 2);
        due("lot 2", plans.amount(2, 0, 1), false);
        due("lot -1", plans.amount(-1, 0, 1), false);
        due("what 5", plans.amount(0, 5, 1), false);
        due("what -1", plans.amount(0, -1, 1), false);
        due("101", plans.amount(0, 0, 101), false);
        due("-101", plans.amount(0, 0, -101), false);
        plans.span(0, 0, 0);
        due("amounts are 0 at first", plans.broken(9, 9, 0, 0), 8);
        due("100", plans.amount(0, 0, 100), true);
        due("-100", plans.amount(1, 0, -100), true);
        due("both", plans.broken(3, 3, 0, 0), 8);
        due("one", plans.broken(3, 2, 0, 0), 0);
        due("refused", plans.amount(0, 0, 200), false);
        due("a refused amount changes nothing", plans.broken(3, 3, 0, 0), 8);
        due("told again", plans.amount(0, 0, 50), true);
        due("the latest counts", plans.broken(4, 2, 0, 0), 8);
        for (int what = 0; what < 5; what++) due("each what", plans.amount(1, what, what), true);
    }

    private static void span() {
        RecipePlans plans = withLots(1);
        for (int what = 0; what < 5; what++) {
            due("told", plans.span(what, -100000, 100000), true);
            due("it is that rule", plans.untell(what), true);
        }
        due("what 5", plans.span(5, 0, 0), false);
        due("what -1", plans.span(-1, 0, 0), false);
        due("low too low", plans.span(0, -100001, 0), false);
        due("high too high", plans.span(0, 0, 100001), false);
        due("low above high", plans.span(0, 1, 0), false);
        due("none was told", plans.untell(0), false);
        plans.amount(0, 3, 7);
        due("low is high", plans.span(3, 14, 14), true);
        due("below", plans.broken(1, 0, 0, 0), 3);
        due("on it", plans.broken(2, 0, 0, 0), 8);
        due("above", plans.broken(3, 0, 0, 0), 3);
        due("refused", plans.span(3, 22, 21), false);
        due("a refused span changes nothing", plans.broken(2, 0, 0, 0), 8);
        due("told again", plans.span(3, 15, 21), true);
        due("the latest counts", plans.broken(2, 0, 0, 0), 3);
        due("the latest counts", plans.broken(3, 0, 0, 0), 8);
        due("far off", plans.span(3, 99999, 100000), true);
        due("run", plans.run(), 2);
        due("far below", plans.span(3, -100000, -99999), true);
        due("run", plans.run(), 2);
    }

    private static void ratio() {
        RecipePlans plans = withLots(1, 1);
        amounts(plans, 0, 3, 0);
        amounts(plans, 1, 0, 2);
        due("k 2", plans.ratio(2, 0, 1, 0, 1, 1), false);
        due("k -1", plans.ratio(-1, 0, 1, 0, 1, 1), false);
        due("first 5", plans.ratio(0, 5, 1, 0, 1, 1), false);
        due("first -1", plans.ratio(0, -1, 1, 0, 1, 1), false);
        due("second 5", plans.ratio(0, 0, 5, 0, 1, 1), false);
        due("second -1", plans.ratio(0, 0, -1, 0, 1, 1), false);
        due("low -1", plans.ratio(0, 0, 1, -1, 1, 1), false);
        due("high 101", plans.ratio(0, 0, 1, 0, 101, 1), false);
        due("low above high", plans.ratio(0, 0, 1, 2, 1, 1), false);
        due("over 0", plans.ratio(0, 0, 1, 0, 1, 0), false);
        due("over 101", plans.ratio(0, 0, 1, 0, 1, 101), false);
        due("none was told", plans.untell(5) || plans.untell(6), false);
        // 4 * 3a from 6 * 2b to 9 * 2b, that is 12a from 12b to 18b
        due("rule 5", plans.ratio(0, 0, 1, 6, 9, 4), true);
        due("none of both", plans.broken(0, 0, 0, 0), 8);
        due("low end", plans.broken(2, 2, 0, 0), 8);
        due("below low", plans.broken(2, 3, 0, 0), 5);
        due("high end", plans.broken(3, 2, 0, 0), 8);
        due("above high", plans.broken(4, 2, 0, 0), 5);
        due("refused", plans.ratio(0, 0, 1, 0, 100, 101), false);
        due("a refused ratio changes nothing", plans.broken(4, 2, 0, 0), 5);
        due("the widest", plans.ratio(0, 0, 1, 0, 100, 100), true);
        due("the latest counts", plans.broken(4, 2, 0, 0), 5);
        due("the latest counts", plans.broken(1, 2, 0, 0), 8);
        due("rule 6", plans.ratio(1, 1, 1, 0, 0, 1), true);
        due("the same what twice", plans.broken(1, 2, 0, 0), 6);
        due("the same what, none of it", plans.broken(0, 0, 0, 0), 8);
        due("rule 6 is told", plans.untell(6), true);
        // with less than nothing of the second, low times it is above high times it
        amounts(plans, 1, 0, -2);
        due("negative", plans.ratio(0, 0, 1, 1, 2, 1), true);
        due("no ratio of a negative", plans.broken(0, 1, 0, 0), 5);
        amounts(plans, 0, -3, 0);
        due("no ratio of two negatives", plans.broken(1, 1, 0, 0), 5);
        due("but an exact one", plans.ratio(0, 0, 1, 3, 3, 2), true);
        due("an exact one of two negatives", plans.broken(1, 1, 0, 0), 8);
    }

    private static void loads() {
        RecipePlans plans = withLots(5, 3);
        due("low -1", plans.loads(-1, 3), false);
        due("high 37", plans.loads(0, 37), false);
        due("low above high", plans.loads(3, 2), false);
        due("none was told", plans.untell(7), false);
        due("the widest", plans.loads(0, 36), true);
        due("all", plans.broken(9, 9, 0, 0), 8);
        due("told again", plans.loads(11, 12), true);
        due("too few", plans.broken(9, 1, 0, 0), 7);
        due("few enough", plans.broken(9, 2, 0, 0), 8);
        due("as many", plans.broken(9, 3, 0, 0), 8);
        due("too many", plans.broken(9, 4, 0, 0), 7);
        due("refused", plans.loads(36, 37), false);
        due("run", plans.run(), 0);
        dueMix("the cheap ones first", plans, 2, 9);
        due("all there are", plans.loads(36, 36), true);
        due("too few lots", plans.run(), 2);
        dueClash("too few lots", plans, 7);
    }

    private static void untell() {
        RecipePlans plans = withLots(1);
        plans.span(0, 5, 5);
        plans.span(4, 5, 5);
        plans.ratio(0, 0, 1, 0, 0, 1);
        plans.ratio(1, 0, 1, 0, 0, 1);
        plans.loads(9, 9);
        due("rule -1", plans.untell(-1), false);
        due("rule 8", plans.untell(8), false);
        due("rule 32", plans.untell(32), false);
        due("rule 1 was not told", plans.untell(1), false);
        due("rule 0 is broken", plans.broken(0, 0, 0, 0), 0);
        due("rule 0", plans.untell(0), true);
        due("rule 0 again", plans.untell(0), false);
        due("rule 4 is broken", plans.broken(0, 0, 0, 0), 4);
        due("rule 4", plans.untell(4), true);
        due("rule 7 is broken", plans.broken(0, 0, 0, 0), 7);
        due("rule 5", plans.untell(5), true);
        due("rule 6", plans.untell(6), true);
        due("rule 7", plans.untell(7), true);
        due("no rule is left", plans.broken(0, 0, 0, 0), 8);
        plans.span(0, 7, 7);
        due("told once more", plans.untell(0), true);
    }

    private static void run() {
        RecipePlans plans = withLots(7);
        plans.amount(0, 0, 3);
        plans.span(0, 10, 11);
        due("only a cut mix", plans.run(), 1);
        dueCut("only a cut mix", plans, 70, 3);
        due("no best", plans.best(0), NONE);
        due("no cost", plans.cost(), NOTHING);
        dueClash("only a cut mix", plans);
        plans.span(0, 10, 12);
        due("a best mix", plans.run(), 0);
        plans.span(0, 28, 40);
        due("no mix", plans.run(), 2);
        dueNothingFound("no mix", plans);
        plans.span(0, 27, 27);
        due("the last load", plans.run(), 0);
        dueMix("the last load", plans, 9);
        plans.untell(0);
        due("no rule", plans.run(), 0);
        dueMix("no rule", plans, 0);
        due("twice the same", plans.run(), 0);
    }

    private static void best() {
        RecipePlans plans = withLots(2, 2, 2, 2);
        plans.loads(3, 30);
        due("run", plans.run(), 0);
        dueMix("of equal cost, the fewer of lot 0 first", plans, 0, 0, 0, 3);
        due("lot -1", plans.best(-1), NONE);
        due("lot 4", plans.best(4), NONE);

        plans = withLots(0, 0, 0, 0);
        plans.loads(20, 20);
        due("run", plans.run(), 0);
        dueMix("all for nothing", plans, 0, 2, 9, 9);

        plans = withLots(3, 1, -1, 0);
        amounts(plans, 0, 1, 1, 0, 0);
        plans.span(0, 1, 5);
        due("run", plans.run(), 0);
        dueMix("gains are taken", plans, 0, 1, 9, 0);

        plans = new RecipePlans();
        plans.lot(0, -1000);
        plans.lot(2, -1);
        due("run", plans.run(), 0);
        dueMix("nothing in stock", plans, 0, 2);

        // the cheapest whole mix is far from the cheapest cut one
        plans = withLots(10, 11);
        amounts(plans, 0, 5, 7);
        plans.span(0, 24, 24);
        due("run", plans.run(), 0);
        dueMix("5a + 7b = 24", plans, 2, 2);
        dueCut("5a + 7b = 24", plans, 264, 7);
    }

    private static void cost() {
        RecipePlans plans = withLots(1000, 1000, 1000, 1000);
        plans.loads(36, 36);
        due("run", plans.run(), 0);
        due("the most", plans.cost(), 36000);
        plans = withLots(-1000, -1000, -1000, -1000);
        due("run", plans.run(), 0);
        due("the least", plans.cost(), -36000);
        plans.loads(0, 0);
        due("what was found stays", plans.cost(), -36000);
        due("run", plans.run(), 0);
        due("none", plans.cost(), 0);
    }

    private static void cut() {
        RecipePlans plans = withLots(6, -4);
        amounts(plans, 0, 4, -6);
        plans.span(0, 2, 2);
        due("run", plans.run(), 0);
        // 4a - 6b = 2: each b costs 9 - 4, so none is taken, and a is 1/2
        dueCut("a whole number", plans, 3, 1);
        due("part 2", plans.cut(2), NOTHING);
        due("part -1", plans.cut(-1), NOTHING);

        plans = withLots(-5);
        plans.amount(0, 0, 100);
        plans.span(0, 0, 30);
        due("run", plans.run(), 0);
        dueCut("a gain", plans, -3, 2);
        plans.span(0, 0, 0);
        plans.amount(0, 0, -7);
        due("run", plans.run(), 0);
        dueCut("nothing", plans, 0, 1);

        // a - b is from b - c to 2(b - c): the cheapest is where both come to nothing
        plans = withLots(4, 3, 3);
        amounts(plans, 0, 1, -1, 0);
        amounts(plans, 1, 0, 1, -1);
        plans.ratio(0, 0, 1, 1, 2, 1);
        plans.loads(10, 10);
        due("run", plans.run(), 0);
        dueMix("both sides of a ratio", plans, 5, 3, 2);
        dueCut("both sides of a ratio", plans, 100, 3);
    }

    /** Numbers so great that the sides of the ratios, multiplied out, are beyond a long. */
    private static void cutOfGreatNumbers() {
        RecipePlans plans = withLots(1000, 999, 998, 997);
        amounts(plans, 0, 100, 100, 100, 100);
        amounts(plans, 1, 100, 100, -100, -100);
        amounts(plans, 2, 100, -100, 100, -100);
        amounts(plans, 3, -100, 100, -100, 100);
        amounts(plans, 4, 100, -100, -100, 100);
        plans.span(0, 3599, 3599);
        plans.span(4, 0, 0);
        plans.ratio(0, 1, 0, 0, 100, 100);
        plans.ratio(1, 2, 3, 100, 100, 100);
        due("run", plans.run(), 1);
        // a + d = b + c and a + c = b + d, so a = b and c = d; and a + b >= c + d, c and d being cheaper
        dueCut("great numbers", plans, 3994L * 3599 / 2, 200);
        dueClash("great numbers", plans);
        plans.loads(36, 36);
        due("run", plans.run(), 2);
        dueClash("great numbers", plans, 0, 7);
    }

    private static void clashes() {
        RecipePlans plans = withLots(1, 1);
        amounts(plans, 0, 1, 0);
        amounts(plans, 1, 0, 1);
        amounts(plans, 2, 1, 1);
        amounts(plans, 3, 1, 1);
        plans.span(0, 5, 9);
        plans.span(1, 5, 9);
        plans.span(2, 0, 9);
        due("run", plans.run(), 2);
        dueClash("three together", plans, 0, 1, 2);
        plans.span(3, 10, 18);
        due("run", plans.run(), 2);
        dueClash("two are fewer", plans, 2, 3);
        plans.loads(0, 8);
        due("run", plans.run(), 2);
        dueClash("of two, the least sum", plans, 2, 3);
        plans.span(2, 9, 18);
        due("run", plans.run(), 2);
        // rules 2 and 7 clash, and 3 and 7: 4 + 128 is less than 8 + 128
        dueClash("of two, the least sum", plans, 2, 7);
        plans.span(4, 1, 1);
        due("run", plans.run(), 2);
        dueClash("one is fewest", plans, 4);
        plans.untell(4);
        plans.untell(7);
        due("run", plans.run(), 0);
        dueClash("no clash", plans);
        five();
    }

    /** In four lots up to five rules may clash of which any four can be kept. */
    private static void five() {
        RecipePlans plans = withLots(0, 0, 0, 0);
        for (int lot = 0; lot < 4; lot++) {
            plans.amount(lot, lot, 1);
            plans.span(lot, 5, 9);
        }
        plans.loads(0, 19);
        due("run", plans.run(), 2);
        dueClash("five together", plans, 0, 1, 2, 3, 7);
        plans.loads(0, 20);
        due("run", plans.run(), 0);
        dueMix("just five each", plans, 5, 5, 5, 5);
    }

    private static void clash() {
        RecipePlans plans = withLots(1);
        plans.amount(0, 0, 1);
        plans.amount(0, 1, 2);
        plans.span(0, 1, 9);
        plans.ratio(0, 0, 1, 3, 4, 4);
        due("run", plans.run(), 2);
        // 4a from 6a to 8a: only for no load at all
        dueClash("a span and a ratio", plans, 0, 5);
        due("rule 32", plans.clash(32), false);
        due("rule 37", plans.clash(37), false);
        plans.ratio(1, 1, 0, 0, 1, 1);
        plans.untell(5);
        dueClash("what was found stays", plans, 0, 5);
        due("run", plans.run(), 2);
        dueClash("the other ratio", plans, 0, 6);
        plans.untell(0);
        due("run", plans.run(), 0);
        dueClash("nothing is mixed", plans);
    }

    private static void broken() {
        RecipePlans plans = new RecipePlans();
        due("no lots", plans.broken(0, 0, 0, 0), 8);
        due("loads of no lot", plans.broken(0, 0, 0, 1), NONE);
        plans.lot(3, 1);
        plans.lot(9, 1);
        due("all of them", plans.broken(3, 9, 0, 0), 8);
        due("more than the stock", plans.broken(4, 0, 0, 0), NONE);
        due("more than the stock", plans.broken(0, 10, 0, 0), NONE);
        due("less than none", plans.broken(-1, 0, 0, 0), NONE);
        due("of a lot that is not there", plans.broken(0, 0, 1, 0), NONE);
        due("of a lot that is not there", plans.broken(0, 0, 0, -1), NONE);
        amounts(plans, 2, 1, 1);
        amounts(plans, 1, 1, 2);
        plans.loads(1, 5);
        plans.span(2, 2, 6);
        plans.span(1, 3, 8);
        plans.ratio(1, 1, 2, 3, 4, 2);
        due("first rule 1", plans.broken(0, 0, 0, 0), 1);
        due("then rule 2", plans.broken(2, 5, 0, 0), 1);
        due("rule 2 alone", plans.broken(0, 1, 0, 0), 1);
        due("rule 6", plans.broken(3, 1, 0, 0), 6);
        due("it suits", plans.broken(1, 2, 0, 0), 8);
        plans.untell(1);
        due("rule 2", plans.broken(3, 4, 0, 0), 2);
        plans.untell(2);
        due("rule 7", plans.broken(3, 4, 0, 0), 7);
        due("broken changes nothing that was found", plans.cost(), NOTHING);
    }

    private static void foundStays() {
        RecipePlans plans = withLots(4, -3);
        plans.loads(1, 5);
        due("run", plans.run(), 0);
        plans.lot(9, -9);
        plans.loads(6, 7);
        plans.amount(0, 0, 9);
        plans.span(0, 1, 1);
        plans.broken(9, 9, 9, 0);
        dueMix("until the next run", plans, 0, 5);
        due("cost", plans.cost(), -15);
        dueCut("until the next run", plans, -15, 1);
        dueClash("until the next run", plans);
        due("run", plans.run(), 1);
        dueClash("then anew", plans);
        plans.untell(0);
        due("run", plans.run(), 0);
        dueMix("then anew", plans, 0, 0, 7);
    }

    /** No call may throw, whatever it is given; and what is refused changes nothing. */
    private static void wildInputs() {
        for (int a : WILD) {
            for (int b : WILD) {
                // a new one each time, as an object is used for 512 calls at most
                RecipePlans plans = withLots(1, 2, 3);
                plans.loads(4, 4);
                plans.run();
                wildInputs(plans, a, b);
                due("run", plans.run(), 0);
                dueMix("as before", plans, 4, 0, 0);
            }
        }
    }

    private static void wildInputs(RecipePlans plans, int a, int b) {
        plans.best(a);
        plans.cut(a);
        plans.clash(a);
        if (a < 0 || a > 9) due("wild lot", plans.lot(a, b), NONE);
        if (a < 0 || a > 36 || b < a || b > 36) due("wild loads", plans.loads(a, b), false);
        for (int c : WILD) {
            plans.broken(a, b, c, 0);
            plans.broken(0, a, b, c);
            if (a < 0 || a > 2 || b < 0 || b > 4 || c < -100 || c > 100) due("wild amount", plans.amount(a, b, c), false);
            if (a < 0 || a > 4 || b < -100000 || c > 100000 || b > c) due("wild span", plans.span(a, b, c), false);
            if (a < 0 || a > 1) due("wild ratio", plans.ratio(a, b, c, 0, 1, 1), false);
            if (b < 0 || c > 100 || b > c || a < 1 || a > 100) due("wild ratio", plans.ratio(0, 0, 0, b, c, a), false);
        }
    }

    /** An object holds out its 512 calls, most of them runs of the greatest size. */
    private static void fullLife() {
        RecipePlans plans = withLots(-1, -2, -3, -4);
        for (int what = 0; what < 5; what++) {
            amounts(plans, what, 100 - what, -90 + 7 * what, 80 - 11 * what * what, 3 * what - 50);
            plans.span(what, -500, 500);
        }
        plans.ratio(0, 0, 1, 0, 100, 3);
        plans.ratio(1, 2, 3, 0, 100, 7);
        plans.loads(0, 30);
        int first = plans.run();
        long cost = plans.cost();
        for (int call = 40; call < 512; call++) due("run", plans.run(), first);
        due("cost", plans.cost(), cost);
    }
}
