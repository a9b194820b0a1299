/** The ordinary cases of promises 11 to 14: fits, redexes, step, run. */
public final class RewriteTest {
    private static final int NONE = BottomUpRewriter.NONE;

    public static void main(String[] args) {
        fittingConstants();
        fittingVariables();
        leastRuleFits();
        countingRedexes();
        outermostLeftmost();
        leastRuleIsTaken();
        eachVariableGetsItsPart();
        failedFitLeavesNoTrace();
        doublingAndDropping();
        restOfTheSubjectStays();
        stepToTheSameTerm();
        stackAndRulesStay();
        runDoesStepAfterStep();
        Check.finish("RewriteTest");
    }

    private static void fittingConstants() {
        BottomUpRewriter x = new BottomUpRewriter();
        Check.due("fits(0) without rules", x.fits(0), NONE);
        Check.makeRule(x, Check.term(1, 3), 0);
        // Places: 0:5 1:3 2:1 3:3 4:3 5:1
        Check.makeSubject(x, 1, 3, 1, 3, 3, 5);
        int[] want = {NONE, 0, NONE, NONE, 0, NONE};
        for (int i = 0; i < want.length; i++) {
            Check.due("fits(" + i + ")", x.fits(i), want[i]);
        }
        Check.due("fits(6)", x.fits(6), NONE);
        Check.due("fits(-1)", x.fits(-1), NONE);
    }

    private static void fittingVariables() {
        BottomUpRewriter x = new BottomUpRewriter();
        Check.makeRule(x, Check.term(7, 8, 4, 6), 7);
        // Places: 0:6 1:6 2:0 3:4 4:1 5:4 6:6 7:1 8:2
        Check.makeSubject(x, 0, 1, 4, 6, 1, 2, 6, 4, 6);
        int[] want = {0, 0, NONE, NONE, NONE, NONE, NONE, NONE, NONE};
        for (int i = 0; i < want.length; i++) {
            Check.due("fits(" + i + ") with variables", x.fits(i), want[i]);
        }
        BottomUpRewriter y = new BottomUpRewriter();
        Check.makeRule(y, Check.term(7, 3), 7);
        Check.makeSubject(y, 0);
        Check.due("a left term larger than the subject", y.fits(0), NONE);
        Check.makeSubject(y, 0, 4);
        Check.due("another symbol with one part", y.fits(0), NONE);
    }

    private static void leastRuleFits() {
        BottomUpRewriter x = new BottomUpRewriter();
        Check.makeRule(x, Check.term(2, 3), 0);
        Check.makeRule(x, Check.term(7, 3), 0);
        Check.makeRule(x, Check.term(1, 3), 0);
        Check.makeRule(x, Check.term(1), 0);
        Check.makeSubject(x, 1, 3);
        Check.due("fits(0) of rules 1 and 2", x.fits(0), 1);
        Check.due("fits(1) of rule 3", x.fits(1), 3);
        Check.makeSubject(x, 2, 3);
        Check.due("fits(0) of rules 0 and 1", x.fits(0), 0);
    }

    private static void countingRedexes() {
        BottomUpRewriter x = new BottomUpRewriter();
        Check.makeSubject(x, 0, 0, 5, 0, 3, 5);
        Check.due("redexes() without rules", x.redexes(), 0);
        Check.makeRule(x, Check.term(0), 0);
        Check.due("redexes() of a constant", x.redexes(), 3);
        Check.makeRule(x, Check.term(0), 1);
        Check.due("two rules at a place count once", x.redexes(), 3);
        Check.makeRule(x, Check.term(7, 8, 5), 1);
        Check.due("places inside others count too", x.redexes(), 5);
        Check.makeRule(x, Check.term(7, 3), 1);
        Check.due("all places", x.redexes(), 6);
        Check.dueSubject("after counting", x, 5, 5, 0, 0, 3, 0);
    }

    private static void outermostLeftmost() {
        BottomUpRewriter x = new BottomUpRewriter();
        Check.makeRule(x, Check.term(0), 1);
        Check.makeRule(x, Check.term(7, 3), 7);
        Check.makeSubject(x, 0, 4, 0, 3, 5, 3);
        Check.due("the outermost first, though rule 0 fits inside", x.step(), 0);
        Check.dueSubject("step 1", x, 5, 4, 0, 3, 0);
        Check.due("then the leftmost", x.step(), 2);
        Check.dueSubject("step 2", x, 5, 4, 1, 3, 0);
        Check.due("then the outer of the right ones", x.step(), 3);
        Check.dueSubject("step 3", x, 5, 4, 1, 0);
        Check.due("then the last", x.step(), 3);
        Check.dueSubject("step 4", x, 5, 4, 1, 1);
        Check.due("then none", x.step(), NONE);
        Check.dueSubject("after none", x, 5, 4, 1, 1);
    }

    private static void leastRuleIsTaken() {
        BottomUpRewriter x = new BottomUpRewriter();
        Check.makeRule(x, Check.term(1, 4), 0);
        Check.makeRule(x, Check.term(7, 4), 1);
        Check.makeRule(x, Check.term(0, 4), 2);
        Check.makeSubject(x, 0, 4);
        Check.due("step()", x.step(), 0);
        Check.dueSubject("by rule 1", x, 1);
    }

    private static void eachVariableGetsItsPart() {
        BottomUpRewriter x = new BottomUpRewriter();
        Check.makeRule(x, Check.term(8, 9, 5, 7, 6), 7, 8, 9, 5, 6);
        Check.makeSubject(x, 0, 3, 1, 2, 5, 5, 2, 4, 4, 6);
        Check.due("step()", x.step(), 0);
        Check.dueSubject("three variables", x, 6, 4, 4, 2, 5, 3, 0, 5, 1, 2);
    }

    private static void failedFitLeavesNoTrace() {
        BottomUpRewriter x = new BottomUpRewriter();
        // Rule 0 gives 7 the first part before it fails; rule 1 gives 7 the second part.
        Check.makeRule(x, Check.term(7, 0, 5), 7);
        Check.makeRule(x, Check.term(8, 7, 5), 7);
        Check.makeRule(x, Check.term(7, 1, 6), 7);
        Check.makeSubject(x, 1, 2, 5);
        Check.due("step()", x.step(), 0);
        Check.dueSubject("by rule 1 alone", x, 2);
    }

    private static void doublingAndDropping() {
        BottomUpRewriter x = new BottomUpRewriter();
        Check.makeRule(x, Check.term(7, 3), 7, 7, 7, 5, 5);
        Check.makeSubject(x, 1, 4, 3);
        Check.due("tripled", x.step(), 0);
        Check.dueSubject("tripled", x, 5, 4, 1, 5, 4, 1, 4, 1);
        BottomUpRewriter y = new BottomUpRewriter();
        Check.makeRule(y, Check.term(7, 8, 6), 2);
        Check.makeSubject(y, 0, 1, 3, 3, 6, 4);
        Check.due("dropped", y.step(), 1);
        Check.dueSubject("dropped", y, 4, 2);
    }

    private static void restOfTheSubjectStays() {
        BottomUpRewriter x = new BottomUpRewriter();
        Check.makeRule(x, Check.term(7, 3), 7, 0, 6);
        Check.makeSubject(x, 1, 4, 2, 3, 5, 1, 2, 5, 6);
        Check.due("step() in the middle", x.step(), 4);
        Check.dueSubject("grown in the middle", x, 6, 5, 4, 1, 6, 2, 0, 5, 1, 2);
        BottomUpRewriter y = new BottomUpRewriter();
        Check.makeRule(y, Check.term(7, 3, 3), 7);
        Check.makeSubject(y, 1, 4, 2, 3, 3, 5, 1, 2, 5, 6);
        Check.due("step() in the middle", y.step(), 4);
        Check.dueSubject("shrunk in the middle", y, 6, 5, 4, 1, 2, 5, 1, 2);
    }

    private static void stepToTheSameTerm() {
        BottomUpRewriter x = new BottomUpRewriter();
        Check.makeRule(x, Check.term(0), 0);
        Check.makeSubject(x, 0, 3);
        Check.due("a step that changes nothing is one", x.step(), 1);
        Check.dueSubject("as it was", x, 3, 0);
    }

    private static void stackAndRulesStay() {
        BottomUpRewriter x = new BottomUpRewriter();
        Check.makeRule(x, Check.term(7, 3), 7, 4);
        Check.push(x, 1, 2, 5);
        Check.makeSubject(x, 0, 3, 3);
        Check.due("run()", x.run(9), 2);
        Check.due("depth()", x.depth(), 1);
        Check.due("rules()", x.rules(), 1);
        x.subject();
        Check.dueSubject("the term on the stack", x, 5, 1, 2);
    }

    private static void runDoesStepAfterStep() {
        BottomUpRewriter x = new BottomUpRewriter();
        Check.makeRule(x, Check.term(0), 1);
        Check.makeRule(x, Check.term(7, 3), 7);
        Check.makeSubject(x, 0, 4, 0, 3, 5, 3);
        Check.due("run(3)", x.run(3), 3);
        Check.dueSubject("after three", x, 5, 4, 1, 0);
        Check.due("run(3) of the one left", x.run(3), 1);
        Check.dueSubject("after four", x, 5, 4, 1, 1);
    }
}
