/** Promises 1 to 4: a new object, build, depth, discard. */
public final class StackTest {
    private static final int BAD_ARG = BottomUpRewriter.BAD_ARG;
    private static final int FULL = BottomUpRewriter.FULL;
    private static final int BAD_STACK = BottomUpRewriter.BAD_STACK;
    private static final int NONE = BottomUpRewriter.NONE;

    public static void main(String[] args) {
        newObject();
        objectsAreApart();
        everySymbolWithoutParts();
        onePart();
        twoParts();
        partsOnlyFromTheTop();
        badSymbols();
        tooFewTerms();
        sixTerms();
        thirtyOnePlaces();
        placesOfAllTermsCount();
        orderOfTheRefusals();
        depthAndDiscard();
        Check.finish("StackTest");
    }

    private static void newObject() {
        BottomUpRewriter x = new BottomUpRewriter();
        Check.due("new: rules()", x.rules(), 0);
        Check.due("new: depth()", x.depth(), 0);
        Check.dueSubject("new", x, 0);
        Check.due("new: digest()", x.digest(), 1);
        Check.due("new: redexes()", x.redexes(), 0);
        Check.due("new: unrule()", x.unrule(), NONE);
        Check.due("new: subject()", x.subject(), BAD_STACK);
    }

    private static void objectsAreApart() {
        BottomUpRewriter x = new BottomUpRewriter();
        Check.makeRule(x, Check.term(0), 1);
        Check.makeSubject(x, 2, 3);
        Check.push(x, 1);
        BottomUpRewriter y = new BottomUpRewriter();
        Check.due("second object: rules()", y.rules(), 0);
        Check.due("second object: depth()", y.depth(), 0);
        Check.dueSubject("second object", y, 0);
    }

    private static void everySymbolWithoutParts() {
        BottomUpRewriter x = new BottomUpRewriter();
        int[] symbols = {0, 1, 2, 7, 8, 9};
        for (int k = 0; k < symbols.length; k++) {
            Check.due("build(" + symbols[k] + ")", x.build(symbols[k]), k + 1);
        }
        for (int s = 0; s <= 2; s++) {
            BottomUpRewriter y = new BottomUpRewriter();
            y.build(s);
            y.subject();
            Check.dueSubject("constant " + s, y, s);
        }
    }

    private static void onePart() {
        BottomUpRewriter x = new BottomUpRewriter();
        Check.due("build(2)", x.build(2), 1);
        Check.due("build(3) on one", x.build(3), 1);
        Check.due("build(4) on one", x.build(4), 1);
        x.subject();
        Check.dueSubject("one part", x, 4, 3, 2);
    }

    private static void twoParts() {
        BottomUpRewriter x = new BottomUpRewriter();
        Check.push(x, 0, 3, 1, 4);
        Check.due("build(5) on two", x.build(5), 1);
        Check.push(x, 2);
        Check.due("build(6) on two", x.build(6), 1);
        x.subject();
        Check.dueSubject("two parts", x, 6, 5, 3, 0, 4, 1, 2);
    }

    private static void partsOnlyFromTheTop() {
        BottomUpRewriter x = new BottomUpRewriter();
        Check.push(x, 0, 3, 1, 2);
        Check.due("build(6) on three", x.build(6), 2);
        Check.due("build(4) on two", x.build(4), 2);
        x.subject();
        Check.dueSubject("top", x, 4, 6, 1, 2);
        x.subject();
        Check.dueSubject("below", x, 3, 0);
    }

    private static void badSymbols() {
        BottomUpRewriter x = new BottomUpRewriter();
        int[] bad = {-1, 10, 11, 64, Integer.MIN_VALUE, Integer.MAX_VALUE};
        for (int s : bad) {
            Check.due("build(" + s + ")", x.build(s), BAD_ARG);
        }
        Check.due("depth() after bad symbols", x.depth(), 0);
    }

    private static void tooFewTerms() {
        BottomUpRewriter x = new BottomUpRewriter();
        for (int s = 3; s <= 6; s++) {
            Check.due("build(" + s + ") on none", x.build(s), BAD_STACK);
        }
        x.build(1);
        Check.due("build(5) on one", x.build(5), BAD_STACK);
        Check.due("build(6) on one", x.build(6), BAD_STACK);
        Check.due("depth() after refusals", x.depth(), 1);
        x.subject();
        Check.dueSubject("after refusals", x, 1);
    }

    private static void sixTerms() {
        BottomUpRewriter x = new BottomUpRewriter();
        Check.push(x, 0, 1, 2, 0, 1, 2);
        int[] withoutParts = {0, 1, 2, 7, 8, 9};
        for (int s : withoutParts) {
            Check.due("build(" + s + ") on six", x.build(s), FULL);
        }
        Check.due("build(3) on six", x.build(3), 6);
        Check.due("build(4) on six", x.build(4), 6);
        Check.due("build(5) on six", x.build(5), 5);
        Check.due("build(0) on five", x.build(0), 6);
        Check.due("build(6) on six", x.build(6), 5);
        x.subject();
        Check.dueSubject("top of six", x, 6, 5, 1, 4, 3, 2, 0);
    }

    private static void thirtyOnePlaces() {
        BottomUpRewriter x = new BottomUpRewriter();
        Check.push(x, 0);
        Check.push(x, Check.times(29, 3));
        Check.due("the 31st place", x.build(4), 1);
        for (int s = 0; s <= 9; s++) {
            Check.due("build(" + s + ") at 31 places", x.build(s), FULL);
        }
        Check.due("depth() at 31 places", x.depth(), 1);
        Check.due("subject() of 31 places", x.subject(), 31);
        Check.due("symbol(0)", x.symbol(0), 4);
        Check.due("symbol(30)", x.symbol(30), 0);
        Check.due("build(0) when the places are free again", x.build(0), 1);
    }

    private static void placesOfAllTermsCount() {
        BottomUpRewriter x = new BottomUpRewriter();
        Check.push(x, 0);
        Check.push(x, Check.times(14, 3));
        Check.push(x, 1);
        Check.push(x, Check.times(14, 4));
        Check.due("the 31st place in two terms", x.build(5), 1);
        Check.due("build(3) at 31 places", x.build(3), FULL);
        x.discard();
        Check.push(x, 0);
        Check.push(x, Check.times(14, 3));
        Check.push(x, 1);
        Check.push(x, Check.times(15, 4));
        Check.due("build(5) on two at 31 places", x.build(5), FULL);
        Check.due("build(2) on two at 31 places", x.build(2), FULL);
        Check.due("depth() of the two", x.depth(), 2);
        Check.due("top's size", x.subject(), 16);
        Check.due("below's size", x.subject(), 15);
    }

    private static void orderOfTheRefusals() {
        BottomUpRewriter x = new BottomUpRewriter();
        Check.push(x, 0);
        Check.push(x, Check.times(30, 3));
        Check.due("bad symbol before full", x.build(10), BAD_ARG);
        Check.due("bad symbol before full", x.build(-1), BAD_ARG);
        Check.due("full before too few terms", x.build(5), FULL);
        Check.due("full before too few terms", x.build(6), FULL);
        BottomUpRewriter y = new BottomUpRewriter();
        Check.push(y, 0, 0, 0, 0, 0, 0);
        Check.due("bad symbol before six terms", y.build(10), BAD_ARG);
    }

    private static void depthAndDiscard() {
        BottomUpRewriter x = new BottomUpRewriter();
        x.discard();
        Check.due("depth() of none discarded", x.depth(), 0);
        for (int k = 1; k <= 6; k++) {
            x.build(k % 3);
            Check.due("depth() of " + k, x.depth(), k);
        }
        Check.push(x, Check.times(25, 3));
        Check.due("build(3) before discard()", x.build(3), FULL);
        x.discard();
        Check.due("depth() after discard()", x.depth(), 0);
        Check.due("build(3) after discard()", x.build(3), BAD_STACK);
        Check.due("subject() after discard()", x.subject(), BAD_STACK);
        Check.push(x, 0);
        Check.push(x, Check.times(30, 4));
        Check.due("all places are free after discard()", x.depth(), 1);
        keepsRulesAndSubject();
    }

    private static void keepsRulesAndSubject() {
        BottomUpRewriter x = new BottomUpRewriter();
        Check.makeRule(x, Check.term(0), 1);
        Check.makeSubject(x, 2, 3);
        Check.push(x, 1, 1);
        x.discard();
        Check.due("rules() after discard()", x.rules(), 1);
        Check.dueSubject("after discard()", x, 3, 2);
    }
}
