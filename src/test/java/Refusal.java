import java.util.ArrayList;
import java.util.List;
import java.util.function.Consumer;
import java.util.function.ToIntFunction;

/** "A refused call answers the code named and changes nothing." */
final class Refusal {
    private Refusal() {
    }

    /** The call is refused with this code, and its object then goes on like one that never got it. */
    static void due(String what, int code, Consumer<BottomUpRewriter> setUp,
            ToIntFunction<BottomUpRewriter> call) {
        BottomUpRewriter called = new BottomUpRewriter();
        setUp.accept(called);
        Check.due(what, call.applyAsInt(called), code);
        BottomUpRewriter uncalled = new BottomUpRewriter();
        setUp.accept(uncalled);
        Check.due(what + " changed nothing", answers(called).equals(answers(uncalled)), true);
    }

    /** What the object answers from now on; the look uses the object up. */
    private static List<Integer> answers(BottomUpRewriter x) {
        List<Integer> seen = new ArrayList<>();
        seen.add(x.depth());
        seen.add(x.rules());
        addSubject(x, seen);
        for (int k = 0; k < 3; k++) {
            seen.add(x.step());
            seen.add(x.digest());
        }
        addStack(x, seen);
        for (int k = 0; k < 7; k++) {
            seen.add(x.unrule());
        }
        return seen;
    }

    private static void addSubject(BottomUpRewriter x, List<Integer> seen) {
        int size = x.size();
        seen.add(size);
        for (int i = 0; i < size; i++) {
            seen.add(x.symbol(i));
            seen.add(x.fits(i));
        }
    }

    private static void addStack(BottomUpRewriter x, List<Integer> seen) {
        for (int k = 0; k < 6; k++) {
            int size = x.subject();
            seen.add(size);
            if (size > 0) {
                addSubject(x, seen);
            } else {
                // A term with variables can be seen in a rule alone, which needs a free number.
                seen.add(x.unrule());
                seen.add(x.rule());
                seen.add(x.redexes());
            }
            seen.add(x.depth());
        }
    }
}
