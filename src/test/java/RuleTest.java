/** The ordinary cases of promises 5 to 7: rule, unrule, rules. */
public final class RuleTest {
    private static final int FULL = BottomUpRewriter.FULL;
    private static final int NONE = BottomUpRewriter.NONE;

    public static void main(String[] args) {
        numbersAndStack();
        leftIsBelowRight();
        removing();
        Check.finish("RuleTest");
    }

    private static void numbersAndStack() {
        BottomUpRewriter x = new BottomUpRewriter();
        Check.push(x, 2, 3, 0, 1);
        Check.due("first rule", x.rule(), 0);
        Check.due("depth() after it", x.depth(), 1);
        Check.push(x, 7, 4, 7);
        Check.due("second rule", x.rule(), 1);
        Check.due("rules()", x.rules(), 2);
        Check.due("the term below is left", x.subject(), 2);
        Check.dueSubject("below the rules", x, 3, 2);
        Check.due("places are free again", x.build(0), 1);
        Check.push(x, Check.times(30, 3));
        Check.due("all of them", x.build(3), FULL);
    }

    private static void leftIsBelowRight() {
        BottomUpRewriter x = new BottomUpRewriter();
        Check.push(x, 0, 1);
        x.rule();
        Check.due("0 becomes 1", x.step(), 0);
        Check.dueSubject("0 becomes 1", x, 1);
        Check.due("1 becomes nothing", x.step(), NONE);
    }

    private static void removing() {
        BottomUpRewriter x = new BottomUpRewriter();
        Check.makeRule(x, Check.term(0), 1);
        Check.makeRule(x, Check.term(7, 3), 7);
        Check.makeRule(x, Check.term(2), 1);
        Check.makeSubject(x, 2, 3);
        Check.push(x, 1);
        Check.due("unrule() of three", x.unrule(), 2);
        Check.due("rules() then", x.rules(), 2);
        Check.due("the highest is gone", x.fits(1), NONE);
        Check.due("the one before is not", x.fits(0), 1);
        Check.due("unrule() of two", x.unrule(), 1);
        Check.due("fits(0) then", x.fits(0), NONE);
        Check.dueSubject("the subject is as it was", x, 3, 2);
        Check.due("the stack is as it was", x.depth(), 1);
        Check.due("unrule() of one", x.unrule(), 0);
        Check.makeRule(x, Check.term(2), 0);
        Check.due("a new rule takes the free number", x.fits(1), 0);
    }
}
