/** The boundary cases of promises 1 to 4, one test for each sentence that names one. */
public final class StackBoundaryTest {
    private static final int BAD_ARG = BottomUpRewriter.BAD_ARG;
    private static final int FULL = BottomUpRewriter.FULL;
    private static final int BAD_STACK = BottomUpRewriter.BAD_STACK;
    private static final int NONE = BottomUpRewriter.NONE;

    private static final int[] BAD_SYMBOLS = {-1, -2, 10, 11, 256, 265, Integer.MIN_VALUE, Integer.MAX_VALUE};
    private static final int[] WITHOUT_PARTS = {0, 1, 2, 7, 8, 9};
    private static final int[] WITH_PARTS = {3, 4, 5, 6};

    public static void main(String[] args) {
        newHasNoRule();
        newSubjectIsZero();
        newStackIsEmpty();
        symbolOutOfRange();
        thirtyOnePlacesInOneTerm();
        thirtyOnePlacesInManyTerms();
        sixTermsOnTheStack();
        sixTermsAndSymbolsWithParts();
        tooFewForOnePart();
        tooFewForTwoParts();
        badArgumentIsTestedFirst();
        fullIsTestedBeforeTheStack();
        depthFromNoneToSix();
        discardOfNothing();
        discardOfSixTerms();
        discardOfThirtyOnePlaces();
        Check.finish("StackBoundaryTest");
    }

    private static void newHasNoRule() {
        Check.sentence("No rule");
        BottomUpRewriter x = new BottomUpRewriter();
        Check.due("rules()", x.rules(), 0);
        Check.due("fits(0)", x.fits(0), NONE);
        Check.due("redexes()", x.redexes(), 0);
        Check.due("step()", x.step(), NONE);
        Check.due("run(1)", x.run(1), 0);
        Check.due("unrule()", x.unrule(), NONE);
    }

    private static void newSubjectIsZero() {
        Check.sentence("the subject is the constant 0");
        BottomUpRewriter x = new BottomUpRewriter();
        Check.dueSubject("new", x, 0);
        Check.due("sizeAt(0)", x.sizeAt(0), 1);
        Check.due("sizeAt(1)", x.sizeAt(1), NONE);
        Check.due("same(0, 0)", x.same(0, 0), true);
        Check.due("same(0, 1)", x.same(0, 1), false);
        Check.due("digest()", x.digest(), 1);
    }

    private static void newStackIsEmpty() {
        Check.sentence("the stack is empty");
        BottomUpRewriter x = new BottomUpRewriter();
        Check.due("depth()", x.depth(), 0);
        Check.due("rule()", x.rule(), BAD_STACK);
        Check.due("subject()", x.subject(), BAD_STACK);
        Check.due("build(3)", x.build(3), BAD_STACK);
        Check.due("build(0)", x.build(0), 1);
    }

    private static void symbolOutOfRange() {
        Check.sentence("s not 0 to 9 answers BAD_ARG");
        for (int s : BAD_SYMBOLS) {
            Refusal.due("build(" + s + ") on none", BAD_ARG, x -> { }, x -> x.build(s));
            Refusal.due("build(" + s + ") on two", BAD_ARG, x -> Check.push(x, 0, 1, 3), x -> x.build(s));
        }
        BottomUpRewriter y = new BottomUpRewriter();
        Check.due("build(0), the least", y.build(0), 1);
        Check.due("build(9), the greatest", y.build(9), 2);
    }

    private static void thirtyOnePlacesInOneTerm() {
        Check.sentence("all terms on the stack together have 31 places answers FULL");
        for (int s = 0; s <= 9; s++) {
            int symbol = s;
            Refusal.due("build(" + s + ") at 31 places", FULL,
                x -> Check.push(x, Check.chain(31, 3, 1)), x -> x.build(symbol));
        }
        BottomUpRewriter y = new BottomUpRewriter();
        Check.push(y, Check.chain(30, 3, 1));
        Check.due("build(4) at 30 places", y.build(4), 1);
        Check.due("its size", y.subject(), 31);
        Check.due("build(0) when the 31 are taken off", y.build(0), 1);
    }

    private static void pushThreeTermsOf31(BottomUpRewriter x) {
        Check.push(x, Check.chain(10, 3, 0));
        Check.push(x, Check.chain(10, 4, 1));
        Check.push(x, Check.chain(11, 3, 2));
    }

    private static void thirtyOnePlacesInManyTerms() {
        Check.sentence("all terms on the stack together have 31 places answers FULL");
        for (int s = 0; s <= 9; s++) {
            int symbol = s;
            Refusal.due("build(" + s + ") on three terms of 31 places", FULL,
                StackBoundaryTest::pushThreeTermsOf31, x -> x.build(symbol));
        }
        for (int s = 0; s <= 9; s++) {
            BottomUpRewriter y = new BottomUpRewriter();
            Check.push(y, Check.chain(15, 3, 0));
            Check.push(y, Check.chain(15, 4, 1));
            Check.due("build(" + s + ") on two terms of 30 places is taken", y.build(s) > 0, true);
            Check.due("build(3) then", y.build(3), FULL);
        }
    }

    private static void sixTermsOnTheStack() {
        Check.sentence("(for symbols without parts) the stack holds 6 terms, answers FULL");
        for (int s : WITHOUT_PARTS) {
            Refusal.due("build(" + s + ") on six", FULL,
                x -> Check.push(x, 0, 1, 2, 0, 1, 2), x -> x.build(s));
            BottomUpRewriter y = new BottomUpRewriter();
            Check.push(y, 0, 1, 2, 0, 1);
            Check.due("build(" + s + ") on five", y.build(s), 6);
            Check.due("build(" + s + ") on six", y.build(s), FULL);
        }
    }

    private static void sixTermsAndSymbolsWithParts() {
        Check.sentence("(for symbols without parts)");
        int[] terms = {6, 6, 5, 5};
        for (int k = 0; k < WITH_PARTS.length; k++) {
            int s = WITH_PARTS[k];
            BottomUpRewriter x = new BottomUpRewriter();
            Check.push(x, 0, 1, 2, 0, 1, 2);
            Check.due("build(" + s + ") on six", x.build(s), terms[k]);
            Check.due("depth() then", x.depth(), terms[k]);
            x.subject();
            Check.due("the symbol built", x.symbol(0), s);
            Check.due("its last part", x.symbol(x.size() - 1), 2);
        }
    }

    private static void tooFewForOnePart() {
        Check.sentence("too few terms on the stack answers BAD_STACK");
        for (int s = 3; s <= 4; s++) {
            int symbol = s;
            Refusal.due("build(" + s + ") on none", BAD_STACK, x -> { }, x -> x.build(symbol));
            BottomUpRewriter y = new BottomUpRewriter();
            Check.push(y, 1);
            Check.due("build(" + s + ") on one", y.build(s), 1);
            y.subject();
            Check.due("build(" + s + ") when it is taken off", y.build(s), BAD_STACK);
        }
    }

    private static void tooFewForTwoParts() {
        Check.sentence("too few terms on the stack answers BAD_STACK");
        for (int s = 5; s <= 6; s++) {
            int symbol = s;
            Refusal.due("build(" + s + ") on none", BAD_STACK, x -> { }, x -> x.build(symbol));
            Refusal.due("build(" + s + ") on one", BAD_STACK, x -> Check.push(x, 1), x -> x.build(symbol));
            Refusal.due("build(" + s + ") on one with parts", BAD_STACK,
                x -> Check.push(x, 0, 1, 5), x -> x.build(symbol));
            BottomUpRewriter y = new BottomUpRewriter();
            Check.push(y, 1, 2);
            Check.due("build(" + s + ") on two", y.build(s), 1);
            Check.due("build(" + s + ") on the one it made", y.build(s), BAD_STACK);
        }
    }

    private static void badArgumentIsTestedFirst() {
        Check.sentence("Tested in this order: s not 0 to 9");
        for (int s : BAD_SYMBOLS) {
            Refusal.due("build(" + s + ") at 31 places", BAD_ARG,
                x -> Check.push(x, Check.chain(31, 3, 1)), x -> x.build(s));
            Refusal.due("build(" + s + ") on six", BAD_ARG,
                x -> Check.push(x, 0, 1, 2, 0, 1, 2), x -> x.build(s));
        }
    }

    private static void fullIsTestedBeforeTheStack() {
        Check.sentence("Tested in this order: 31 places, too few terms");
        for (int s = 5; s <= 6; s++) {
            int symbol = s;
            Refusal.due("build(" + s + ") on one of 31 places", FULL,
                x -> Check.push(x, Check.chain(31, 4, 0)), x -> x.build(symbol));
            Refusal.due("build(" + s + ") on one of 30 places", BAD_STACK,
                x -> Check.push(x, Check.chain(30, 4, 0)), x -> x.build(symbol));
        }
    }

    private static void depthFromNoneToSix() {
        Check.sentence("The number of terms on the stack");
        BottomUpRewriter x = new BottomUpRewriter();
        Check.due("depth() of none", x.depth(), 0);
        for (int k = 1; k <= 6; k++) {
            Check.push(x, k % 3);
            Check.due("depth() of " + k, x.depth(), k);
        }
        x.build(0);
        Check.due("depth() after a seventh", x.depth(), 6);
        for (int k = 5; k >= 0; k--) {
            x.subject();
            Check.due("depth() with " + k + " left", x.depth(), k);
        }
        x.subject();
        Check.due("depth() after one too many is taken", x.depth(), 0);
    }

    private static void discardOfNothing() {
        Check.sentence("Empties the stack");
        BottomUpRewriter x = new BottomUpRewriter();
        x.discard();
        Check.due("depth()", x.depth(), 0);
        x.discard();
        Check.due("depth() again", x.depth(), 0);
        Check.due("build(0)", x.build(0), 1);
    }

    private static void discardOfSixTerms() {
        Check.sentence("Empties the stack");
        BottomUpRewriter x = new BottomUpRewriter();
        Check.push(x, 0, 1, 2, 7, 8, 9);
        x.discard();
        Check.due("depth()", x.depth(), 0);
        Check.due("build(3)", x.build(3), BAD_STACK);
        Check.due("rule()", x.rule(), BAD_STACK);
        Check.due("subject()", x.subject(), BAD_STACK);
        for (int k = 1; k <= 6; k++) {
            Check.due("term " + k + " after it", x.build(0), k);
        }
        Check.due("a seventh", x.build(0), FULL);
    }

    private static void discardOfThirtyOnePlaces() {
        Check.sentence("Empties the stack");
        BottomUpRewriter x = new BottomUpRewriter();
        pushThreeTermsOf31(x);
        x.discard();
        Check.due("depth()", x.depth(), 0);
        Check.push(x, Check.chain(31, 4, 2));
        Check.due("build(4) at 31 places", x.build(4), FULL);
        Check.due("subject()", x.subject(), 31);
        Check.due("symbol(29)", x.symbol(29), 4);
        Check.due("symbol(30)", x.symbol(30), 2);
    }
}
