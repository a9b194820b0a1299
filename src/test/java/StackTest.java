/** The ordinary cases of promises 1 to 4: a new object, build, depth, discard. */
public final class StackTest {
    public static void main(String[] args) {
        objectsAreApart();
        everySymbolWithoutParts();
        onePart();
        twoParts();
        partsOnlyFromTheTop();
        depthCountsTerms();
        discardKeepsRulesAndSubject();
        Check.finish("StackTest");
    }

    private static void objectsAreApart() {
        BottomUpRewriter x = new BottomUpRewriter();
        Check.makeRule(x, Check.term(0), 1);
        Check.makeSubject(x, 2, 3);
        Check.push(x, 1);
        BottomUpRewriter y = new BottomUpRewriter();
        Check.due("second object: rules()", y.rules(), 0);
        Check.due("second object: depth()", y.depth(), 0);
        Check.dueSubject("second object", y, 0);
    }

    private static void everySymbolWithoutParts() {
        BottomUpRewriter x = new BottomUpRewriter();
        int[] symbols = {0, 1, 2, 7, 8, 9};
        for (int k = 0; k < symbols.length; k++) {
            Check.due("build(" + symbols[k] + ")", x.build(symbols[k]), k + 1);
        }
        for (int s = 0; s <= 2; s++) {
            BottomUpRewriter y = new BottomUpRewriter();
            y.build(s);
            y.subject();
            Check.dueSubject("constant " + s, y, s);
        }
    }

    private static void onePart() {
        BottomUpRewriter x = new BottomUpRewriter();
        Check.due("build(2)", x.build(2), 1);
        Check.due("build(3) on one", x.build(3), 1);
        Check.due("build(4) on one", x.build(4), 1);
        x.subject();
        Check.dueSubject("one part", x, 4, 3, 2);
    }

    private static void twoParts() {
        BottomUpRewriter x = new BottomUpRewriter();
        Check.push(x, 0, 3, 1, 4);
        Check.due("build(5) on two", x.build(5), 1);
        Check.push(x, 2);
        Check.due("build(6) on two", x.build(6), 1);
        x.subject();
        Check.dueSubject("two parts", x, 6, 5, 3, 0, 4, 1, 2);
    }

    private static void partsOnlyFromTheTop() {
        BottomUpRewriter x = new BottomUpRewriter();
        Check.push(x, 0, 3, 1, 2);
        Check.due("build(6) on three", x.build(6), 2);
        Check.due("build(4) on two", x.build(4), 2);
        x.subject();
        Check.dueSubject("top", x, 4, 6, 1, 2);
        x.subject();
        Check.dueSubject("below", x, 3, 0);
    }

    private static void depthCountsTerms() {
        BottomUpRewriter x = new BottomUpRewriter();
        Check.push(x, 0, 1, 2);
        Check.due("depth() of three terms", x.depth(), 3);
        Check.push(x, 5);
        Check.due("depth() when two became one", x.depth(), 2);
        Check.push(x, 4);
        Check.due("depth() when one became another", x.depth(), 2);
    }

    private static void discardKeepsRulesAndSubject() {
        BottomUpRewriter x = new BottomUpRewriter();
        Check.makeRule(x, Check.term(0), 1);
        Check.makeSubject(x, 2, 3);
        Check.push(x, 1, 1);
        x.discard();
        Check.due("depth() after discard()", x.depth(), 0);
        Check.due("rules() after discard()", x.rules(), 1);
        Check.dueSubject("after discard()", x, 3, 2);
        Check.makeSubject(x, 1, 4);
        Check.dueSubject("built after discard()", x, 4, 1);
    }
}
