/** The boundary cases of promises 8 to 10 and 15 to 17, one test for each sentence that names one. */
public final class SubjectBoundaryTest {
    private static final int BAD_STACK = BottomUpRewriter.BAD_STACK;
    private static final int NONE = BottomUpRewriter.NONE;

    private static final int[] NEVER_PLACES = {
        -1, -2, -31, -32, 31, 32, 63, 256, 65536, Integer.MIN_VALUE, Integer.MIN_VALUE + 1, Integer.MAX_VALUE};

    public static void main(String[] args) {
        emptyStack();
        topNotGround();
        variableBelowTheTop();
        sizesFromOneTo31();
        noSuchSymbol();
        noSuchPart();
        partSizesAtTheEnds();
        noFirstPlace();
        noSecondPlace();
        neitherPlace();
        placeWithItself();
        placesOfAShorterSubject();
        placesOfARewrittenSubject();
        leastAndGreatestDigest();
        Check.finish("SubjectBoundaryTest");
    }

    private static BottomUpRewriter withSubject(int size) {
        BottomUpRewriter x = new BottomUpRewriter();
        Check.makeSubject(x, Check.chain(size, 3, 2));
        return x;
    }

    private static void emptyStack() {
        Check.sentence("BAD_STACK if the stack is empty");
        Refusal.due("subject() of a new object", BAD_STACK, x -> { }, x -> x.subject());
        Refusal.due("subject() when all are taken", BAD_STACK,
            x -> Check.makeSubject(x, 1, 3), x -> x.subject());
        Refusal.due("subject() after discard()", BAD_STACK, x -> {
            Check.push(x, 1, 2);
            x.discard();
        }, x -> x.subject());
    }

    private static void topNotGround() {
        Check.sentence("BAD_STACK if the top is not ground");
        for (int v = 7; v <= 9; v++) {
            int[][] tops = {{v}, {v, 3}, {v, 0, 5}, {0, v, 6}, {v, v, 5}, {0, 1, 5, 2, v, 4, 6, 5}};
            for (int[] top : tops) {
                Refusal.due("subject() of " + top.length + " places with " + v, BAD_STACK, x -> {
                    Check.push(x, 2);
                    Check.push(x, top);
                }, x -> x.subject());
            }
            BottomUpRewriter y = new BottomUpRewriter();
            Check.push(y, v, 3);
            Check.due("subject() of 3 with " + v, y.subject(), BAD_STACK);
            Check.push(y, v);
            Check.due("rule() of the same term", y.rule(), 0);
        }
        Refusal.due("subject() of 31 places, the last 7", BAD_STACK,
            x -> Check.push(x, Check.chain(31, 3, 7)), x -> x.subject());
    }

    private static void variableBelowTheTop() {
        Check.sentence("the top is not ground");
        BottomUpRewriter x = new BottomUpRewriter();
        Check.push(x, 7, 3, 2, 4);
        Check.due("subject() above a term with a variable", x.subject(), 2);
        Check.dueSubject("the top", x, 4, 2);
        Check.due("depth()", x.depth(), 1);
        Check.due("subject() of the one below", x.subject(), BAD_STACK);
        Check.dueSubject("the top still", x, 4, 2);
    }

    private static void sizesFromOneTo31() {
        Check.sentence("The SUBJECT is a ground term of size 1 to 31");
        for (int size = 1; size <= 31; size++) {
            BottomUpRewriter x = new BottomUpRewriter();
            Check.push(x, Check.chain(size, 4, 1));
            Check.due("subject()", x.subject(), size);
            Check.due("size()", x.size(), size);
            Check.due("symbol() of the first place", x.symbol(0), size == 1 ? 1 : 4);
            Check.due("symbol() of the last place", x.symbol(size - 1), 1);
        }
    }

    private static void noSuchSymbol() {
        Check.sentence("The symbol at place i of the subject; NONE if there is none");
        for (int size = 1; size <= 31; size++) {
            BottomUpRewriter x = withSubject(size);
            Check.due("the last place of " + size, x.symbol(size - 1), 2);
            Check.due("the place behind the last of " + size, x.symbol(size), NONE);
            Check.due("the place before the first of " + size, x.symbol(-1), NONE);
        }
        for (int i : NEVER_PLACES) {
            Refusal.due("symbol(" + i + ")", NONE, x -> Check.makeSubject(x, Check.chain(31, 3, 2)), x -> x.symbol(i));
        }
    }

    private static void noSuchPart() {
        Check.sentence("The size of the part of the subject at place i; NONE if there is no such place");
        for (int size = 1; size <= 31; size++) {
            BottomUpRewriter x = withSubject(size);
            Check.due("the last place of " + size, x.sizeAt(size - 1), 1);
            Check.due("the place behind the last of " + size, x.sizeAt(size), NONE);
            Check.due("the place before the first of " + size, x.sizeAt(-1), NONE);
        }
        for (int i : NEVER_PLACES) {
            Refusal.due("sizeAt(" + i + ")", NONE, x -> Check.makeSubject(x, Check.chain(31, 3, 2)), x -> x.sizeAt(i));
        }
    }

    private static void partSizesAtTheEnds() {
        Check.sentence("The size of the part of the subject at place i");
        BottomUpRewriter x = withSubject(31);
        for (int i = 0; i < 31; i++) {
            Check.due("sizeAt(" + i + ")", x.sizeAt(i), 31 - i);
        }
        // Sixteen constants under fifteen symbols with two parts, which lean to the left.
        BottomUpRewriter y = leaningLeft();
        for (int i = 0; i < 31; i++) {
            Check.due("sizeAt(" + i + ") of the leaning one", y.sizeAt(i), i < 15 ? 31 - 2 * i : 1);
        }
    }

    private static BottomUpRewriter leaningLeft() {
        BottomUpRewriter y = new BottomUpRewriter();
        Check.push(y, 2);
        for (int k = 0; k < 15; k++) {
            Check.push(y, 2, 6);
        }
        Check.due("subject()", y.subject(), 31);
        return y;
    }

    private static void noFirstPlace() {
        Check.sentence("false if there are no such places");
        BottomUpRewriter x = withSubject(31);
        BottomUpRewriter y = withSubject(3);
        for (int i : NEVER_PLACES) {
            Check.due("same(" + i + ", 0)", x.same(i, 0), false);
            Check.due("same(" + i + ", 30)", x.same(i, 30), false);
            Check.due("same(" + i + ", 2) of three", y.same(i, 2), false);
        }
        Check.due("same(3, 2) of three", y.same(3, 2), false);
    }

    private static void noSecondPlace() {
        Check.sentence("false if there are no such places");
        BottomUpRewriter x = withSubject(31);
        BottomUpRewriter y = withSubject(3);
        for (int j : NEVER_PLACES) {
            Check.due("same(0, " + j + ")", x.same(0, j), false);
            Check.due("same(30, " + j + ")", x.same(30, j), false);
            Check.due("same(2, " + j + ") of three", y.same(2, j), false);
        }
        Check.due("same(2, 3) of three", y.same(2, 3), false);
    }

    private static void neitherPlace() {
        Check.sentence("false if there are no such places");
        BottomUpRewriter x = withSubject(31);
        BottomUpRewriter y = withSubject(3);
        for (int i : NEVER_PLACES) {
            for (int j : NEVER_PLACES) {
                Check.due("same(" + i + ", " + j + ")", x.same(i, j), false);
            }
            Check.due("same(" + i + ", " + i + ") of three", y.same(i, i), false);
        }
        Check.due("same(3, 3) of three", y.same(3, 3), false);
        Check.due("same(3, 4) of three", y.same(3, 4), false);
        Check.dueSubject("after the answers", y, 3, 3, 2);
    }

    private static void placeWithItself() {
        Check.sentence("Whether the parts of the subject at places i and j are the same terms");
        BottomUpRewriter x = withSubject(31);
        for (int i = 0; i < 31; i++) {
            Check.due("same(" + i + ", " + i + ")", x.same(i, i), true);
            Check.due("same(" + i + ", 30)", x.same(i, 30), i == 30);
            Check.due("same(0, " + i + ")", x.same(0, i), i == 0);
        }
        // Two parts of 15 places, the largest that can be the same: places 1 to 15 and 16 to 30.
        BottomUpRewriter y = new BottomUpRewriter();
        Check.push(y, Check.chain(15, 4, 1));
        Check.push(y, Check.chain(15, 4, 1));
        Check.makeSubject(y, 5);
        Check.due("same(1, 16)", y.same(1, 16), true);
        Check.due("same(16, 1)", y.same(16, 1), true);
        Check.due("same(1, 17)", y.same(1, 17), false);
        Check.due("same(15, 30)", y.same(15, 30), true);
    }

    private static void dueOnlyPlace(String what, BottomUpRewriter x) {
        for (int i = 1; i < 31; i++) {
            Check.due(what + ": symbol(" + i + ")", x.symbol(i), NONE);
            Check.due(what + ": sizeAt(" + i + ")", x.sizeAt(i), NONE);
            Check.due(what + ": same(" + i + ", " + i + ")", x.same(i, i), false);
            Check.due(what + ": fits(" + i + ")", x.fits(i), NONE);
        }
    }

    private static void placesOfAShorterSubject() {
        Check.sentence("it becomes the subject");
        BottomUpRewriter x = withSubject(31);
        Check.makeRule(x, Check.term(7, 3), 7);
        Check.makeSubject(x, 1);
        Check.due("size()", x.size(), 1);
        Check.due("symbol(0)", x.symbol(0), 1);
        Check.due("digest()", x.digest(), 2);
        Check.due("redexes()", x.redexes(), 0);
        dueOnlyPlace("after a longer one", x);
    }

    private static void placesOfARewrittenSubject() {
        Check.sentence("REWRITING the term there by the rule puts the right term in place of that part");
        BottomUpRewriter x = withSubject(31);
        Check.makeRule(x, Check.term(7, 3), 1);
        Check.due("step() from 31 places to 1", x.step(), 0);
        Check.due("size()", x.size(), 1);
        Check.due("symbol(0)", x.symbol(0), 1);
        Check.due("digest()", x.digest(), 2);
        Check.due("redexes()", x.redexes(), 0);
        dueOnlyPlace("rewritten", x);
    }

    private static void leastAndGreatestDigest() {
        Check.sentence("The sum over the places i of the subject of (i + 1) times (symbol + 1)");
        BottomUpRewriter x = new BottomUpRewriter();
        Check.makeSubject(x, 0);
        Check.due("digest() of 0, the least", x.digest(), 1);
        Check.makeSubject(x, 2);
        Check.due("digest() of 2", x.digest(), 3);
        // Places 0 to 14 count 7 each, places 15 to 30 count 3 each.
        Check.due("digest() of the leaning one", leaningLeft().digest(), 7 * 120 + 3 * (496 - 120));
        Check.due("digest() of 31 places in a row", withSubject(31).digest(), 4 * (496 - 31) + 3 * 31);
    }
}
