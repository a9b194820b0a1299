/** Promises 5 to 7: rule, unrule, rules. */
public final class RuleTest {
    private static final int FULL = BottomUpRewriter.FULL;
    private static final int BAD_STACK = BottomUpRewriter.BAD_STACK;
    private static final int NONE = BottomUpRewriter.NONE;

    public static void main(String[] args) {
        numbersAndStack();
        leftIsBelowRight();
        fewerThanTwoTerms();
        leftVariable();
        leftSize();
        variableTwiceInLeft();
        variableTwiceInRight();
        unknownVariableInRight();
        largeRight();
        sixRules();
        removing();
        Check.finish("RuleTest");
    }

    private static void dueRefused(String what, int depth, int... symbols) {
        BottomUpRewriter x = new BottomUpRewriter();
        Check.push(x, symbols);
        Check.due(what + ": rule()", x.rule(), BAD_STACK);
        Check.due(what + ": rules()", x.rules(), 0);
        Check.due(what + ": depth()", x.depth(), depth);
    }

    private static void dueTaken(String what, int... symbols) {
        BottomUpRewriter x = new BottomUpRewriter();
        Check.push(x, symbols);
        Check.due(what + ": rule()", x.rule(), 0);
        Check.due(what + ": rules()", x.rules(), 1);
        Check.due(what + ": depth()", x.depth(), 0);
    }

    private static void numbersAndStack() {
        BottomUpRewriter x = new BottomUpRewriter();
        Check.push(x, 2, 3, 0, 1);
        Check.due("first rule", x.rule(), 0);
        Check.due("depth() after it", x.depth(), 1);
        Check.push(x, 7, 4, 7);
        Check.due("second rule", x.rule(), 1);
        Check.due("rules()", x.rules(), 2);
        Check.due("the term below is left", x.subject(), 2);
        Check.dueSubject("below the rules", x, 3, 2);
        Check.due("places are free again", x.build(0), 1);
        Check.push(x, Check.times(30, 3));
        Check.due("all of them", x.build(3), FULL);
    }

    private static void leftIsBelowRight() {
        BottomUpRewriter x = new BottomUpRewriter();
        Check.push(x, 0, 1);
        x.rule();
        Check.due("0 becomes 1", x.step(), 0);
        Check.dueSubject("0 becomes 1", x, 1);
        Check.due("1 becomes nothing", x.step(), NONE);
    }

    private static void fewerThanTwoTerms() {
        dueRefused("no term", 0);
        dueRefused("one term", 1, 0, 3);
    }

    private static void leftVariable() {
        for (int v = 7; v <= 9; v++) {
            dueRefused("left is " + v, 2, v, 0);
            dueRefused("left is right, " + v, 2, v, v);
            dueTaken("left is a part with " + v, v, 3, v);
        }
        dueTaken("left is a constant", 2, 2);
    }

    private static void leftSize() {
        dueTaken("left of size 7", 0, 3, 3, 3, 3, 3, 3, 1);
        dueRefused("left of size 8", 2, 0, 3, 3, 3, 3, 3, 3, 3, 1);
        dueTaken("left of size 7 with two parts", 0, 1, 5, 2, 0, 6, 5, 1);
        dueRefused("left of size 8 with two parts", 2, 0, 1, 5, 2, 0, 6, 5, 4, 1);
    }

    private static void variableTwiceInLeft() {
        for (int v = 7; v <= 9; v++) {
            dueRefused("twice " + v, 2, v, v, 5, 0);
            dueRefused("twice, deep, " + v, 2, v, 3, 0, 5, v, 6, 0);
        }
        dueTaken("three variables once", 7, 8, 5, 9, 6, 0);
        dueTaken("a constant twice", 0, 0, 5, 0);
    }

    private static void variableTwiceInRight() {
        dueTaken("twice in the right term", 7, 3, 7, 7, 5);
    }

    private static void unknownVariableInRight() {
        for (int v = 7; v <= 9; v++) {
            dueRefused("no variable left, right " + v, 2, 0, v);
            for (int w = 7; w <= 9; w++) {
                if (v != w) {
                    dueRefused("left " + v + ", right " + w, 2, v, 3, w);
                    dueRefused("left " + v + ", right both", 2, v, 3, v, w, 5);
                }
            }
        }
        dueTaken("variable in the left term only", 7, 8, 5, 8);
    }

    private static void largeRight() {
        BottomUpRewriter x = new BottomUpRewriter();
        Check.makeRule(x, Check.term(1), 1);
        Check.push(x, 0, 2);
        Check.push(x, Check.times(29, 4));
        Check.due("right of size 30", x.rule(), 1);
        Check.makeRule(x, Check.term(1), 2);
        Check.due("step()", x.step(), 0);
        Check.due("size()", x.size(), 30);
        Check.due("symbol(0)", x.symbol(0), 4);
        Check.due("symbol(28)", x.symbol(28), 4);
        Check.due("symbol(29)", x.symbol(29), 2);
    }

    private static void sixRules() {
        BottomUpRewriter x = new BottomUpRewriter();
        for (int k = 0; k < 6; k++) {
            Check.push(x, k % 3, 3, 0);
            Check.due("rule " + k, x.rule(), k);
            Check.due("rules()", x.rules(), k + 1);
        }
        Check.due("full, before the stack is looked at", x.rule(), FULL);
        Check.push(x, 7);
        Check.due("full with one term", x.rule(), FULL);
        Check.push(x, 8);
        Check.due("full with a bad rule", x.rule(), FULL);
        x.discard();
        Check.push(x, 0, 1);
        Check.due("full with a good rule", x.rule(), FULL);
        Check.due("the stack is as it was", x.depth(), 2);
        Check.due("the rules are as they were", x.rules(), 6);
        Check.due("one removed", x.unrule(), 5);
        Check.due("then there is room", x.rule(), 5);
    }

    private static void removing() {
        BottomUpRewriter x = new BottomUpRewriter();
        Check.due("unrule() of none", x.unrule(), NONE);
        Check.due("rules() then", x.rules(), 0);
        Check.makeRule(x, Check.term(0), 1);
        Check.makeRule(x, Check.term(7, 3), 7);
        Check.makeRule(x, Check.term(2), 1);
        Check.makeSubject(x, 2, 3);
        Check.push(x, 1);
        Check.due("unrule() of three", x.unrule(), 2);
        Check.due("rules() then", x.rules(), 2);
        Check.due("the highest is gone", x.fits(1), NONE);
        Check.due("the one before is not", x.fits(0), 1);
        Check.due("unrule() of two", x.unrule(), 1);
        Check.due("fits(0) then", x.fits(0), NONE);
        Check.dueSubject("the subject is as it was", x, 3, 2);
        Check.due("the stack is as it was", x.depth(), 1);
        Check.due("unrule() of one", x.unrule(), 0);
        Check.due("unrule() of none again", x.unrule(), NONE);
        Check.makeRule(x, Check.term(2), 0);
        Check.due("a new rule takes the free number", x.fits(1), 0);
    }
}
