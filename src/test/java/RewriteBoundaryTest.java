/** The boundary cases of promises 11 to 14, one test for each sentence that names one. */
public final class RewriteBoundaryTest {
    private static final int FULL = BottomUpRewriter.FULL;
    private static final int NONE = BottomUpRewriter.NONE;

    public static void main(String[] args) {
        noSuchRule();
        noSuchPlace();
        firstAndLastRule();
        leftTermAndTheEndOfTheSubject();
        noRedex();
        redexAtEveryPlace();
        nothingFitsAnywhere();
        onlyTheLastPlaceFits();
        thirtyOnePlacesAreNotTooMany();
        moreThan31Places();
        muchMoreThan31Places();
        nothingFitsThoughTheSubjectIsFull();
        noOtherPlaceIsTaken();
        noOtherRuleIsTaken();
        stepsOfAFullSubject();
        noStepsAsked();
        atMost40Steps();
        runToTheLastStep();
        runUntilNothingFits();
        runUntilFull();
        Check.finish("RewriteBoundaryTest");
    }

    private static void noSuchRule() {
        Check.sentence("NONE if there is no such rule");
        Refusal.due("fits(0) without rules", NONE, x -> { }, x -> x.fits(0));
        BottomUpRewriter y = new BottomUpRewriter();
        for (int k = 0; k < 6; k++) {
            Check.makeRule(y, Check.term(7, 3 + k % 2), 7);
        }
        Check.makeSubject(y, 0, 1, 5);
        for (int i = 0; i < 3; i++) {
            Check.due("fits(" + i + ") of six rules", y.fits(i), NONE);
        }
    }

    private static void noSuchPlace() {
        Check.sentence("NONE if there is no such place");
        int[] never = {-1, -2, 31, 32, 256, 65536, Integer.MIN_VALUE, Integer.MAX_VALUE};
        for (int i : never) {
            Refusal.due("fits(" + i + ") of 31 places", NONE, x -> {
                Check.makeRule(x, Check.term(7, 3), 7);
                Check.makeRule(x, Check.term(0), 0);
                Check.makeSubject(x, Check.chain(31, 3, 0));
            }, x -> x.fits(i));
        }
        for (int size = 1; size <= 31; size++) {
            BottomUpRewriter y = new BottomUpRewriter();
            Check.makeRule(y, Check.term(7, 3), 7);
            Check.makeRule(y, Check.term(0), 0);
            Check.makeSubject(y, Check.chain(31, 3, 0));
            Check.makeSubject(y, Check.chain(size, 3, 0));
            Check.due("the last place of " + size, y.fits(size - 1), 1);
            Check.due("the place behind the last of " + size, y.fits(size), NONE);
            Check.due("the place before the first of " + size, y.fits(-1), NONE);
        }
    }

    private static void firstAndLastRule() {
        Check.sentence("The least number of a rule that fits the subject at place i");
        BottomUpRewriter x = new BottomUpRewriter();
        Check.makeRule(x, Check.term(7, 8, 5), 0);
        for (int k = 1; k <= 4; k++) {
            Check.makeRule(x, Check.term(2), 2);
        }
        Check.makeRule(x, Check.term(0, 1, 5), 1);
        Check.makeSubject(x, 0, 1, 5);
        Check.due("fits(0) of rules 0 and 5", x.fits(0), 0);
        Check.due("fits(1) of none", x.fits(1), NONE);
        BottomUpRewriter y = new BottomUpRewriter();
        for (int k = 0; k <= 4; k++) {
            Check.makeRule(y, Check.term(2), 2);
        }
        Check.makeRule(y, Check.term(0), 1);
        Check.due("fits(0) of rule 5 alone", y.fits(0), 5);
        Check.due("step() by it", y.step(), 0);
        Check.dueSubject("by rule 5", y, 1);
    }

    private static void leftTermAndTheEndOfTheSubject() {
        Check.sentence("the left term, with these in place of its variables, is the part of the term at that place");
        for (int size = 1; size <= 31; size++) {
            BottomUpRewriter x = new BottomUpRewriter();
            Check.makeRule(x, Check.chain(7, 3, 0), 1);
            Check.makeSubject(x, Check.chain(31, 3, 0));
            Check.makeSubject(x, Check.chain(size, 3, 0));
            for (int i = 0; i < size; i++) {
                Check.due("fits(" + i + ") of " + size, x.fits(i), i == size - 7 ? 0 : NONE);
            }
        }
        BottomUpRewriter y = new BottomUpRewriter();
        Check.makeRule(y, Check.term(7, 3), 7, 4);
        Check.makeSubject(y, Check.chain(31, 3, 0));
        Check.due("a variable is given 30 places", y.step(), 0);
        Check.due("size()", y.size(), 31);
        Check.due("symbol(0)", y.symbol(0), 4);
        Check.due("symbol(1)", y.symbol(1), 3);
        Check.due("symbol(30)", y.symbol(30), 0);
    }

    private static void noRedex() {
        Check.sentence("At how many places of the subject some rule fits");
        BottomUpRewriter x = new BottomUpRewriter();
        Check.due("redexes() without rules", x.redexes(), 0);
        Check.makeRule(x, Check.term(1), 0);
        Check.due("redexes() of a rule that does not fit", x.redexes(), 0);
        Check.makeSubject(x, Check.chain(31, 3, 0));
        Check.due("redexes() of 31 places", x.redexes(), 0);
    }

    private static void redexAtEveryPlace() {
        Check.sentence("At how many places of the subject some rule fits");
        BottomUpRewriter x = new BottomUpRewriter();
        Check.makeRule(x, Check.term(7, 3), 7);
        Check.makeSubject(x, Check.chain(31, 3, 0));
        Check.due("redexes() at all but the last", x.redexes(), 30);
        Check.makeRule(x, Check.term(0), 0);
        Check.due("redexes() at all", x.redexes(), 31);
        Check.makeRule(x, Check.term(8, 3), 8);
        Check.due("redexes() where two rules fit", x.redexes(), 31);
        Check.makeSubject(x, 0);
        Check.due("redexes() of one place", x.redexes(), 1);
    }

    private static void nothingFitsAnywhere() {
        Check.sentence("no rule fits anywhere answers NONE");
        Refusal.due("step() without rules", NONE, x -> Check.makeSubject(x, 0, 1, 5), x -> x.step());
        Refusal.due("step() of a rule that does not fit", NONE, x -> {
            Check.makeRule(x, Check.term(7, 3), 7);
            Check.makeSubject(x, 0, 1, 5);
            Check.push(x, 2);
        }, x -> x.step());
        Refusal.due("step() when the rule is removed", NONE, x -> {
            Check.makeRule(x, Check.term(0), 1);
            x.unrule();
        }, x -> x.step());
    }

    private static void onlyTheLastPlaceFits() {
        Check.sentence("Its NEXT PLACE is the least place at which some rule fits");
        BottomUpRewriter x = new BottomUpRewriter();
        Check.makeRule(x, Check.term(0), 1);
        Check.makeSubject(x, Check.chain(31, 3, 0));
        Check.due("step() at the last of 31 places", x.step(), 30);
        Check.due("symbol(30)", x.symbol(30), 1);
        Check.due("step() then", x.step(), NONE);
        Check.makeRule(x, Check.term(1), 2);
        Check.makeRule(x, Check.term(7, 3), 0);
        Check.due("step() at the first of 31 places, by a later rule", x.step(), 0);
        Check.dueSubject("rewritten as a whole", x, 0);
    }

    private static void thirtyOnePlacesAreNotTooMany() {
        Check.sentence("the subject would have more than 31 places answers FULL");
        BottomUpRewriter x = new BottomUpRewriter();
        Check.makeRule(x, Check.term(0), 0, 3);
        Check.makeSubject(x, Check.chain(30, 4, 0));
        Check.due("step() to 31 places", x.step(), 29);
        Check.due("size()", x.size(), 31);
        Check.due("symbol(29)", x.symbol(29), 3);
        Check.due("symbol(30)", x.symbol(30), 0);
        BottomUpRewriter y = new BottomUpRewriter();
        Check.makeRule(y, Check.term(7, 4), 7, 7, 5);
        Check.makeSubject(y, insideFour(15));
        Check.due("step() to 31 places by doubling 15", y.step(), 0);
        Check.due("size()", y.size(), 31);
        Check.due("same(1, 16)", y.same(1, 16), true);
        Check.due("sizeAt(16)", y.sizeAt(16), 15);
    }

    /** A part of this size inside a symbol 4, as for push. */
    private static int[] insideFour(int size) {
        int[] symbols = Check.chain(size + 1, 3, 1);
        symbols[size] = 4;
        return symbols;
    }

    private static void moreThan31Places() {
        Check.sentence("the subject would have more than 31 places answers FULL");
        Refusal.due("step() to 32 places, at the last place", FULL, x -> {
            Check.makeRule(x, Check.term(0), 0, 3);
            Check.makeSubject(x, Check.chain(31, 4, 0));
            Check.push(x, 1, 2);
        }, x -> x.step());
        Refusal.due("step() to 32 places, at the first place", FULL, x -> {
            Check.makeRule(x, Check.term(7, 4), 7, 4, 3);
            Check.makeSubject(x, Check.chain(31, 4, 0));
        }, x -> x.step());
        Refusal.due("step() to 33 places by doubling 16", FULL, x -> {
            Check.makeRule(x, Check.term(7, 4), 7, 7, 5);
            Check.makeSubject(x, insideFour(16));
        }, x -> x.step());
        Refusal.due("step() to 32 places, with places behind", FULL, x -> {
            Check.makeRule(x, Check.term(0), 0, 3);
            Check.push(x, 0);
            Check.push(x, Check.chain(29, 4, 2));
            Check.makeSubject(x, 6);
        }, x -> x.step());
    }

    private static void muchMoreThan31Places() {
        Check.sentence("the subject would have more than 31 places answers FULL");
        Refusal.due("step() to 15 times 30 places and 14", FULL, x -> {
            Check.push(x, 7, 3, 7);
            for (int k = 0; k < 13; k++) {
                Check.push(x, 7, 5);
            }
            Check.due("rule()", x.rule(), 0);
            Check.makeSubject(x, Check.chain(31, 3, 2));
        }, x -> x.step());
        Refusal.due("step() to 31 places and 29", FULL, x -> {
            Check.makeRule(x, Check.term(0), Check.chain(30, 3, 0));
            Check.makeSubject(x, Check.chain(31, 4, 0));
        }, x -> x.step());
    }

    private static void nothingFitsThoughTheSubjectIsFull() {
        Check.sentence("Tested in this order: no rule fits anywhere answers NONE");
        Refusal.due("step() of 31 places that no rule fits", NONE, x -> {
            Check.makeRule(x, Check.term(1), Check.chain(30, 3, 1));
            Check.makeSubject(x, Check.chain(31, 4, 0));
        }, x -> x.step());
    }

    private static void noOtherPlaceIsTaken() {
        Check.sentence("Rewrites the subject at its next place");
        Refusal.due("step() that has room at a later place only", FULL, x -> {
            Check.makeRule(x, Check.term(7, 4), 7, 7, 5);
            Check.makeRule(x, Check.term(7, 3), 7);
            Check.makeSubject(x, insideFour(16));
        }, x -> x.step());
    }

    private static void noOtherRuleIsTaken() {
        Check.sentence("there the rule with the least number that fits is taken");
        Refusal.due("step() that has room by a later rule only", FULL, x -> {
            Check.makeRule(x, Check.term(7, 4), 7, 7, 5);
            Check.makeRule(x, Check.term(7, 4), 7);
            Check.makeSubject(x, insideFour(16));
        }, x -> x.step());
    }

    private static void stepsOfAFullSubject() {
        Check.sentence("the subject would have more than 31 places");
        BottomUpRewriter x = new BottomUpRewriter();
        Check.makeRule(x, Check.term(7, 3), 7, 4);
        Check.makeRule(x, Check.term(0), 0);
        Check.makeSubject(x, Check.chain(31, 3, 0));
        for (int i = 0; i < 30; i++) {
            Check.due("step() from 31 places to 31", x.step(), i);
        }
        Check.due("step() to the same term", x.step(), 30);
        Check.due("size()", x.size(), 31);
        Check.due("digest()", x.digest(), 5 * (496 - 31) + 31);
        BottomUpRewriter y = new BottomUpRewriter();
        Check.makeRule(y, Check.term(7, 3), 7);
        Check.makeSubject(y, Check.chain(31, 3, 0));
        Check.due("step() from 31 places to 30", y.step(), 0);
        Check.due("size()", y.size(), 30);
    }

    private static void makeEndlessRules(BottomUpRewriter x) {
        Check.makeRule(x, Check.term(0), 1);
        Check.makeRule(x, Check.term(1), 2);
        Check.makeRule(x, Check.term(2), 0);
    }

    private static void dueSteps(int asked, int done) {
        BottomUpRewriter x = new BottomUpRewriter();
        makeEndlessRules(x);
        Check.due("run(" + asked + ")", x.run(asked), done);
        Check.dueSubject("after run(" + asked + ")", x, done % 3);
        Check.due("run(1) then", x.run(1), 1);
    }

    private static void noStepsAsked() {
        Check.sentence("none if n < 1");
        int[] none = {0, -1, -2, -40, -41, Integer.MIN_VALUE, Integer.MIN_VALUE + 1};
        for (int n : none) {
            dueSteps(n, 0);
            Refusal.due("run(" + n + ")", 0, RewriteBoundaryTest::makeEndlessRules, x -> x.run(n));
        }
        dueSteps(1, 1);
    }

    private static void atMost40Steps() {
        Check.sentence("at most 40");
        dueSteps(38, 38);
        dueSteps(39, 39);
        dueSteps(40, 40);
        int[] more = {41, 42, 80, 256, 65536 + 1, Integer.MAX_VALUE - 1, Integer.MAX_VALUE};
        for (int n : more) {
            dueSteps(n, 40);
        }
    }

    private static void runToTheLastStep() {
        Check.sentence("Does up to n steps");
        for (int n = 4; n <= 6; n++) {
            BottomUpRewriter x = new BottomUpRewriter();
            Check.makeRule(x, Check.term(7, 3), 7);
            Check.makeSubject(x, Check.chain(6, 3, 1));
            Check.due("run(" + n + ") of five", x.run(n), Math.min(n, 5));
            Check.due("size()", x.size(), n == 4 ? 2 : 1);
            Check.due("run(" + n + ") then", x.run(n), n == 4 ? 1 : 0);
        }
    }

    private static void runUntilNothingFits() {
        Check.sentence("until one is refused");
        Refusal.due("run(40) without rules", 0, x -> Check.makeSubject(x, 0, 1, 5), x -> x.run(40));
        Refusal.due("run(1) of a rule that does not fit", 0,
            x -> Check.makeRule(x, Check.term(1), 0), x -> x.run(1));
        BottomUpRewriter y = new BottomUpRewriter();
        Check.makeRule(y, Check.term(7, 3), 7);
        Check.makeSubject(y, Check.chain(31, 3, 2));
        Check.due("run(40) of thirty", y.run(40), 30);
        Check.dueSubject("after thirty", y, 2);
    }

    private static void runUntilFull() {
        Check.sentence("until one is refused");
        Refusal.due("run(40) that would grow at once", 0, x -> {
            Check.makeRule(x, Check.term(0), 0, 3);
            Check.makeSubject(x, Check.chain(31, 4, 0));
        }, x -> x.run(40));
        BottomUpRewriter y = new BottomUpRewriter();
        Check.makeRule(y, Check.term(0), 0, 4);
        Check.due("run(40) of thirty", y.run(40), 30);
        Check.due("size()", y.size(), 31);
        Check.due("digest()", y.digest(), 5 * (496 - 31) + 31);
        Check.due("run(1) then", y.run(1), 0);
        Check.due("step() then", y.step(), FULL);
    }
}
