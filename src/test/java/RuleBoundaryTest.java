/** The boundary cases of promises 5 to 7, one test for each sentence that names one. */
public final class RuleBoundaryTest {
    private static final int FULL = BottomUpRewriter.FULL;
    private static final int BAD_STACK = BottomUpRewriter.BAD_STACK;
    private static final int NONE = BottomUpRewriter.NONE;

    public static void main(String[] args) {
        sixRules();
        fewerThanTwoTerms();
        leftVariable();
        leftSize();
        variableTwiceInLeft();
        unknownVariableInRight();
        fullIsTestedFirst();
        onlyTheTopTwoAreLookedAt();
        largestLeftTerms();
        largestRightTerms();
        noRuleToRemove();
        removingAllSix();
        removedRuleIsGone();
        rulesFromNoneToSix();
        Check.finish("RuleBoundaryTest");
    }

    private static void dueRefused(String what, int... symbols) {
        Refusal.due(what + ": rule()", BAD_STACK, x -> Check.push(x, symbols), x -> x.rule());
    }

    private static void dueTaken(String what, int... symbols) {
        BottomUpRewriter x = new BottomUpRewriter();
        Check.push(x, symbols);
        Check.due(what + ": rule()", x.rule(), 0);
        Check.due(what + ": rules()", x.rules(), 1);
        Check.due(what + ": depth()", x.depth(), 0);
    }

    private static void makeRules(BottomUpRewriter x, int count) {
        for (int k = 0; k < count; k++) {
            Check.push(x, k % 3, 3 + k / 3, 0);
            Check.due("rule() " + k, x.rule(), k);
        }
    }

    private static void sixRules() {
        Check.sentence("6 rules answers FULL");
        Refusal.due("a seventh rule()", FULL, x -> {
            makeRules(x, 6);
            Check.push(x, 0, 1);
        }, x -> x.rule());
        BottomUpRewriter y = new BottomUpRewriter();
        makeRules(y, 5);
        Check.push(y, 0, 1, 2, 0);
        Check.due("a sixth rule()", y.rule(), 5);
        Check.due("a seventh rule()", y.rule(), FULL);
        Check.due("depth() then", y.depth(), 2);
        Check.due("unrule()", y.unrule(), 5);
        Check.due("rule() when there is room again", y.rule(), 5);
        Check.due("depth() then", y.depth(), 0);
    }

    private static void fewerThanTwoTerms() {
        Check.sentence("fewer than two terms on the stack answers BAD_STACK");
        dueRefused("none");
        dueRefused("one", 0);
        dueRefused("one with parts", 0, 1, 5);
        dueTaken("two", 0, 1);
        BottomUpRewriter x = new BottomUpRewriter();
        Check.push(x, 0, 1, 2);
        Check.due("rule() of three terms", x.rule(), 0);
        Check.due("rule() of the one left", x.rule(), BAD_STACK);
        Check.due("subject()", x.subject(), 1);
        Check.dueSubject("the one left", x, 0);
    }

    private static void leftVariable() {
        Check.sentence("L a variable answers BAD_STACK");
        for (int v = 7; v <= 9; v++) {
            dueRefused(v + " left", v, 0);
            dueRefused(v + " left and right", v, v);
            dueRefused(v + " left, inside right", v, v, 3);
            dueTaken(v + " inside left", v, 3, v);
        }
        for (int c = 0; c <= 2; c++) {
            dueTaken("the constant " + c + " left", c, c);
        }
    }

    private static void leftSize() {
        Check.sentence("L of size greater than 7 answers BAD_STACK");
        dueTaken("7 places in a row", 0, 3, 3, 3, 3, 3, 3, 1);
        dueRefused("8 places in a row", 0, 3, 3, 3, 3, 3, 3, 3, 1);
        dueTaken("7 places in two parts", 0, 1, 5, 2, 0, 6, 5, 1);
        dueRefused("8 places in two parts", 0, 1, 5, 2, 0, 6, 5, 4, 1);
        dueTaken("7 places with variables", 7, 8, 5, 9, 4, 3, 6, 8);
        dueRefused("8 places with variables", 7, 8, 5, 9, 4, 3, 3, 6, 8);
        dueTaken("1 place", 2, 0);
        Refusal.due("30 places: rule()", BAD_STACK, x -> {
            Check.push(x, Check.chain(30, 3, 0));
            Check.push(x, 1);
        }, x -> x.rule());
    }

    private static void variableTwiceInLeft() {
        Check.sentence("a variable twice in L answers BAD_STACK");
        for (int v = 7; v <= 9; v++) {
            dueRefused(v + " as both parts", v, v, 5, 0);
            dueRefused(v + " deep inside", v, 3, 0, 5, v, 6, 0);
            dueRefused(v + " twice and right", v, v, 6, v);
        }
        dueRefused("8 twice between others", 7, 8, 5, 9, 8, 6, 5, 0);
        dueTaken("each variable once", 7, 8, 5, 9, 6, 0);
        dueTaken("a constant twice", 0, 0, 5, 0);
        dueTaken("twice right, but once left", 7, 3, 7, 7, 5);
        dueTaken("once left and once right", 7, 3, 7);
    }

    private static void unknownVariableInRight() {
        Check.sentence("a variable in R that is not in L answers BAD_STACK");
        for (int v = 7; v <= 9; v++) {
            dueRefused(v + " right, none left", 0, v);
            dueRefused(v + " twice right, none left", 0, v, v, 5);
            for (int w = 7; w <= 9; w++) {
                if (v != w) {
                    dueRefused(v + " left, " + w + " right", v, 3, w);
                    dueRefused(v + " left, both right", v, 3, v, w, 5);
                    dueRefused(v + " left, both right, last inside", v, 3, v, 0, w, 3, 6, 5);
                }
            }
            dueTaken(v + " left, none right", v, 3, 0);
        }
        dueTaken("three left, one right", 7, 8, 5, 9, 6, 8);
        dueTaken("three left, three right", 7, 8, 5, 9, 6, 9, 8, 5, 7, 5);
    }

    private static void fullIsTestedFirst() {
        Check.sentence("Tested in this order: 6 rules answers FULL");
        int[][] unfit = {{}, {0}, {7, 0}, {0, 3, 3, 3, 3, 3, 3, 3, 1}, {7, 7, 5, 0}, {0, 7}};
        for (int[] symbols : unfit) {
            Refusal.due("rule() of " + symbols.length + " unfit symbols", FULL, x -> {
                makeRules(x, 6);
                Check.push(x, symbols);
            }, x -> x.rule());
        }
    }

    private static void onlyTheTopTwoAreLookedAt() {
        Check.sentence("Takes the top R and the one below it L off the stack");
        BottomUpRewriter x = new BottomUpRewriter();
        Check.push(x, 8, 8, 5, 9, 8, 3, 8);
        Check.due("rule() above two terms that are unfit for one", x.rule(), 0);
        Check.due("depth() then", x.depth(), 2);
        Check.due("rule() of the two", x.rule(), BAD_STACK);
        dueRefused("9 right, and below left only", 9, 3, 8, 3, 9);
    }

    private static void largestLeftTerms() {
        Check.sentence("There are at most 6 rules, numbered from 0 on");
        BottomUpRewriter x = new BottomUpRewriter();
        int[] inside = {0, 1, 2, 0, 1, 2};
        int[] outer = {3, 3, 3, 4, 4, 4};
        for (int k = 0; k < 6; k++) {
            Check.makeRule(x, Check.chain(7, outer[k], inside[k]), (k + 1) % 3);
        }
        for (int k = 0; k < 6; k++) {
            Check.makeSubject(x, Check.chain(7, outer[k], inside[k]));
            Check.due("fits(0) of rule " + k, x.fits(0), k);
            Check.due("step() by it", x.step(), 0);
            Check.dueSubject("rule " + k, x, (k + 1) % 3);
        }
    }

    private static void largestRightTerms() {
        Check.sentence("There are at most 6 rules, numbered from 0 on");
        // 31 places on the stack, of which the left term needs one at least.
        for (int made = 1; made <= 6; made++) {
            BottomUpRewriter x = new BottomUpRewriter();
            for (int k = 0; k < made; k++) {
                int left = k == made - 1 ? 0 : 1;
                Check.makeRule(x, Check.term(left), Check.chain(30, 3 + k % 2, k % 3));
            }
            int last = made - 1;
            Check.due("fits(0)", x.fits(0), last);
            Check.due("step() by rule " + last, x.step(), 0);
            Check.due("size()", x.size(), 30);
            Check.due("symbol(0)", x.symbol(0), 3 + last % 2);
            Check.due("symbol(28)", x.symbol(28), 3 + last % 2);
            Check.due("symbol(29)", x.symbol(29), last % 3);
        }
    }

    private static void noRuleToRemove() {
        Check.sentence("NONE if there is none");
        Refusal.due("unrule() of a new object", NONE, x -> { }, x -> x.unrule());
        Refusal.due("unrule() when all are removed", NONE, x -> {
            makeRules(x, 2);
            Check.push(x, 0, 1, 3);
            x.unrule();
            x.unrule();
        }, x -> x.unrule());
        Refusal.due("unrule() after a refused rule()", NONE, x -> {
            Check.push(x, 7, 0);
            x.rule();
        }, x -> x.unrule());
    }

    private static void removingAllSix() {
        Check.sentence("Otherwise the number it had");
        BottomUpRewriter x = new BottomUpRewriter();
        makeRules(x, 6);
        for (int k = 5; k >= 0; k--) {
            Check.due("unrule()", x.unrule(), k);
            Check.due("rules()", x.rules(), k);
        }
        Check.due("unrule() of none", x.unrule(), NONE);
        Check.due("rules() of none", x.rules(), 0);
        Check.push(x, 0, 1);
        Check.due("rule() after it", x.rule(), 0);
    }

    private static void removedRuleIsGone() {
        Check.sentence("Removes the rule with the highest number");
        BottomUpRewriter x = new BottomUpRewriter();
        Check.makeRule(x, Check.term(7, 4), 7);
        Check.makeRule(x, Check.term(7, 8, 5, 9, 3, 3, 6), 7, 8, 9, 5, 5);
        Check.makeSubject(x, 0, 4, 4);
        x.unrule();
        Check.due("fits(0) of the one left", x.fits(0), 0);
        Check.makeRule(x, Check.term(0), 1);
        Check.due("a smaller rule under the same number", x.fits(2), 1);
        Check.due("run(9)", x.run(9), 3);
        Check.dueSubject("run(9)", x, 1);
        x.unrule();
        x.unrule();
        Check.makeSubject(x, 0, 4);
        Check.due("fits(0) of none", x.fits(0), NONE);
        Check.due("fits(1) of none", x.fits(1), NONE);
        Check.due("redexes() of none", x.redexes(), 0);
        Check.due("step() of none", x.step(), NONE);
    }

    private static void rulesFromNoneToSix() {
        Check.sentence("The number of rules");
        BottomUpRewriter x = new BottomUpRewriter();
        Check.due("rules() of none", x.rules(), 0);
        x.unrule();
        Check.due("rules() after unrule() of none", x.rules(), 0);
        x.rule();
        Check.due("rules() after a refused rule()", x.rules(), 0);
        for (int k = 1; k <= 6; k++) {
            Check.push(x, 0, 1);
            x.rule();
            Check.due("rules()", x.rules(), k);
        }
        Check.push(x, 0, 1);
        x.rule();
        Check.due("rules() after a seventh", x.rules(), 6);
        x.discard();
        Check.due("rules() after discard()", x.rules(), 6);
    }
}
