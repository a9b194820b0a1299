import java.util.List;
import java.util.function.Consumer;
import java.util.function.ToIntFunction;

/** The boundary cases that the document names for all calls. */
public final class CallBoundaryTest {
    private static final int BAD_ARG = BottomUpRewriter.BAD_ARG;
    private static final int FULL = BottomUpRewriter.FULL;
    private static final int BAD_STACK = BottomUpRewriter.BAD_STACK;
    private static final int NONE = BottomUpRewriter.NONE;

    private static final String LIFE = "An object is used for at most 512 calls after it has been made";
    private static final int LAST_CALL = 512;

    private static final int[] ARGUMENTS = {
        Integer.MIN_VALUE, -65536, -32, -1, 0, 1, 3, 6, 9, 10, 30, 31, 40, 41, 65536, Integer.MAX_VALUE};

    private static final List<Consumer<BottomUpRewriter>> STATES = List.of(
        x -> { },
        x -> Check.push(x, 0, 1, 2, 0, 1, 2),
        x -> Check.push(x, 7, 8, 9, 7, 8, 9),
        x -> Check.push(x, Check.chain(31, 3, 0)),
        x -> Check.push(x, Check.chain(31, 4, 9)),
        CallBoundaryTest::fillWithGrowingRules,
        CallBoundaryTest::fillWithShrinkingRules);

    public static void main(String[] args) {
        stepsToTheLastCall();
        runsToTheLastCall();
        termsToTheLastCall();
        rulesToTheLastCall();
        noCallThrows();
        refusalsOfANewObject();
        refusalsOfAFullObject();
        Check.finish("CallBoundaryTest");
    }

    /** Six rules of which the first grows what it fits, 31 places in the subject, 31 on the stack. */
    private static void fillWithGrowingRules(BottomUpRewriter x) {
        for (int k = 0; k < 6; k++) {
            Check.makeRule(x, Check.term(7, 3 + k % 2), 7, 7, 5, 7, 6);
        }
        Check.makeSubject(x, Check.chain(31, 3, 2));
        Check.push(x, Check.chain(26, 3, 0));
        Check.push(x, 7, 8, 9, 7, 8);
    }

    private static void fillWithShrinkingRules(BottomUpRewriter x) {
        for (int k = 0; k < 6; k++) {
            Check.makeRule(x, Check.term(7, 8, 5, 9, 6, 3, 3), 8);
        }
        Check.push(x, 2);
        for (int k = 0; k < 7; k++) {
            Check.push(x, 1, 5, 0, 6);
        }
        Check.makeSubject(x, 3, 3);
    }

    private static void stepsToTheLastCall() {
        Check.sentence(LIFE);
        BottomUpRewriter x = new BottomUpRewriter();
        x.build(0);
        x.build(1);
        x.rule();
        x.build(1);
        x.build(0);
        x.rule();
        for (int call = 7; call < LAST_CALL; call++) {
            Check.due("step(), call " + call, x.step(), 0);
        }
        Check.due("symbol(0), call " + LAST_CALL, x.symbol(0), (LAST_CALL - 7) % 2);
    }

    private static void runsToTheLastCall() {
        Check.sentence(LIFE);
        BottomUpRewriter x = new BottomUpRewriter();
        x.build(0);
        x.build(0);
        x.rule();
        for (int call = 4; call <= LAST_CALL; call++) {
            Check.due("run(40), call " + call, x.run(40), 40);
        }
    }

    private static void termsToTheLastCall() {
        Check.sentence(LIFE);
        BottomUpRewriter x = new BottomUpRewriter();
        for (int call = 1; call < LAST_CALL; call += 4) {
            Check.due("build(2), call " + call, x.build(2), 1);
            Check.due("build(3), call " + (call + 1), x.build(3), 1);
            Check.due("build(5), call " + (call + 2), x.build(5), BAD_STACK);
            Check.due("subject(), call " + (call + 3), x.subject(), 2);
        }
    }

    private static void rulesToTheLastCall() {
        Check.sentence(LIFE);
        BottomUpRewriter x = new BottomUpRewriter();
        for (int call = 1; call < LAST_CALL; call += 4) {
            Check.due("build(0), call " + call, x.build(0), 1);
            Check.due("build(1), call " + (call + 1), x.build(1), 2);
            Check.due("rule(), call " + (call + 2), x.rule(), 0);
            Check.due("unrule(), call " + (call + 3), x.unrule(), 0);
        }
    }

    private static void noCallThrows() {
        Check.sentence("No call ever throws");
        for (int state = 0; state < STATES.size(); state++) {
            for (int i : ARGUMENTS) {
                String in = ") in state " + state;
                String at = "(" + i + in;
                Consumer<BottomUpRewriter> setUp = STATES.get(state);
                dueNoThrow("build" + at, setUp, x -> x.build(i));
                dueNoThrow("symbol" + at, setUp, x -> x.symbol(i));
                dueNoThrow("fits" + at, setUp, x -> x.fits(i));
                dueNoThrow("run" + at, setUp, x -> x.run(i));
                dueNoThrow("sizeAt" + at, setUp, x -> x.sizeAt(i));
                for (int j : ARGUMENTS) {
                    dueNoThrow("same(" + i + ", " + j + in, setUp, x -> x.same(i, j) ? 1 : 0);
                }
            }
            noCallWithoutArgumentsThrows(state);
        }
    }

    private static void noCallWithoutArgumentsThrows(int state) {
        String at = "() in state " + state;
        Consumer<BottomUpRewriter> setUp = STATES.get(state);
        dueNoThrow("depth" + at, setUp, BottomUpRewriter::depth);
        dueNoThrow("rule" + at, setUp, BottomUpRewriter::rule);
        dueNoThrow("unrule" + at, setUp, BottomUpRewriter::unrule);
        dueNoThrow("rules" + at, setUp, BottomUpRewriter::rules);
        dueNoThrow("subject" + at, setUp, BottomUpRewriter::subject);
        dueNoThrow("size" + at, setUp, BottomUpRewriter::size);
        dueNoThrow("redexes" + at, setUp, BottomUpRewriter::redexes);
        dueNoThrow("step" + at, setUp, BottomUpRewriter::step);
        dueNoThrow("digest" + at, setUp, BottomUpRewriter::digest);
        dueNoThrow("discard" + at, setUp, x -> {
            x.discard();
            return 0;
        });
    }

    private static void dueNoThrow(String what, Consumer<BottomUpRewriter> setUp,
            ToIntFunction<BottomUpRewriter> call) {
        BottomUpRewriter x = new BottomUpRewriter();
        setUp.accept(x);
        boolean thrown = false;
        try {
            // Twice, so that a call is made in the state that it leaves, too.
            call.applyAsInt(x);
            call.applyAsInt(x);
        } catch (RuntimeException | Error e) {
            thrown = true;
        }
        Check.due(what + " throws", thrown, false);
    }

    private static void refusalsOfANewObject() {
        Check.sentence("A refused call answers the code named and changes nothing");
        Refusal.due("the last of all refused calls", NONE, x -> { }, x -> {
            Check.due("build(-1)", x.build(-1), BAD_ARG);
            Check.due("build(10)", x.build(10), BAD_ARG);
            Check.due("build(4)", x.build(4), BAD_STACK);
            Check.due("build(5)", x.build(5), BAD_STACK);
            Check.due("rule()", x.rule(), BAD_STACK);
            Check.due("subject()", x.subject(), BAD_STACK);
            Check.due("symbol(1)", x.symbol(1), NONE);
            Check.due("sizeAt(1)", x.sizeAt(1), NONE);
            Check.due("fits(0)", x.fits(0), NONE);
            Check.due("step()", x.step(), NONE);
            return x.unrule();
        });
    }

    private static void refusalsOfAFullObject() {
        Check.sentence("A refused call answers the code named and changes nothing");
        Refusal.due("the last of all refused calls", NONE, CallBoundaryTest::fillWithGrowingRules, x -> {
            Check.due("build(10)", x.build(10), BAD_ARG);
            Check.due("build(0)", x.build(0), FULL);
            Check.due("build(3)", x.build(3), FULL);
            Check.due("build(6)", x.build(6), FULL);
            Check.due("rule()", x.rule(), FULL);
            Check.due("subject()", x.subject(), BAD_STACK);
            Check.due("step()", x.step(), FULL);
            Check.due("symbol(31)", x.symbol(31), NONE);
            Check.due("sizeAt(31)", x.sizeAt(31), NONE);
            return x.fits(30);
        });
    }
}
