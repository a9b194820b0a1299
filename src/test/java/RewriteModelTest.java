import java.util.ArrayList;
import java.util.List;

/**
 * Promises 8 to 17: subjects of every size under whole rules, rewritten by the class and by the model.
 * The mixed runs of ModelTest seldom come to large subjects that a rule fits.
 */
public final class RewriteModelTest {
    private static final int RUNS = 1500;
    private static final int LAST_CALL = 512;
    private static final int CALLS_TO_BUILD = 32;
    private static final int CALLS_OF_A_LOOK = 37;
    private static final List<Integer> CONSTANTS = List.of(0, 1, 2);

    private final int run;
    private final Picker picker;
    private final BottomUpRewriter x = new BottomUpRewriter();
    private final Model m = new Model();
    private int calls;

    private RewriteModelTest(int run) {
        this.run = run;
        this.picker = new Picker(run);
    }

    public static void main(String[] args) {
        for (int run = 0; run < RUNS; run++) {
            new RewriteModelTest(run).compareRun();
        }
        Check.finish("RewriteModelTest");
    }

    private void due(String what, int got, int want) {
        calls++;
        Check.due("run " + run + ", call " + calls + ": " + what, got, want);
    }

    private void compareRun() {
        int rules = 1 + picker.pick(6);
        for (int k = 0; k < rules; k++) {
            makeRule();
        }
        while (hasCallsFor(CALLS_TO_BUILD + CALLS_OF_A_LOOK)) {
            compareSubject(1 + picker.pick(31));
        }
    }

    private void build(int s) {
        due("build(" + s + ")", x.build(s), m.build(s));
    }

    /** Builds a term of this size; its places without parts get the last of these symbols, one by one. */
    private void buildTerm(int size, List<Integer> ends) {
        if (size == 1) {
            build(ends.remove(ends.size() - 1));
        } else if (size == 2 || picker.pick(3) == 0) {
            buildTerm(size - 1, ends);
            build(picker.pickOf(3, 4));
        } else {
            int first = 1 + picker.pick(size - 2);
            buildTerm(first, ends);
            buildTerm(size - 1 - first, ends);
            build(picker.pickOf(5, 6));
        }
    }

    private List<Integer> pickEnds(List<Integer> symbols) {
        List<Integer> ends = new ArrayList<>();
        for (int k = 0; k < 31; k++) {
            ends.add(symbols.get(picker.pick(symbols.size())));
        }
        return ends;
    }

    private void makeRule() {
        List<Integer> ends = pickEnds(CONSTANTS);
        int first = picker.pick(3);
        for (int k = 0; k < 3; k++) {
            ends.add(7 + (first + k) % 3);
        }
        buildTerm(2 + picker.pick(picker.pickOf(2, 6)), ends);
        List<Integer> known = new ArrayList<>(CONSTANTS);
        for (int v = 7; v <= 9; v++) {
            boolean standsLeft = !ends.contains(v);
            if (standsLeft) {
                known.addAll(List.of(v, v, v));
            }
        }
        buildTerm(1 + picker.pick(picker.pickOf(3, 5, 12)), pickEnds(known));
        due("rule()", x.rule(), m.rule());
    }

    private boolean hasCallsFor(int more) {
        return calls + more <= LAST_CALL;
    }

    private void compareSubject(int size) {
        buildTerm(size, pickEnds(CONSTANTS));
        due("subject()", x.subject(), m.subject());
        look();
        if (picker.pick(4) == 0 && hasCallsFor(1 + CALLS_OF_A_LOOK)) {
            int n = picker.pick(45);
            due("run(" + n + ")", x.run(n), m.run(n));
            look();
        }
        boolean taken = true;
        while (taken && hasCallsFor(1 + CALLS_OF_A_LOOK)) {
            int place = x.step();
            due("step()", place, m.step());
            look();
            taken = place >= 0;
        }
    }

    private void look() {
        due("size()", x.size(), m.size());
        due("digest()", x.digest(), m.digest());
        due("redexes()", x.redexes(), m.redexes());
        for (int i = 0; i < m.size(); i++) {
            due("symbol(" + i + ")", x.symbol(i), m.symbol(i));
        }
        int i = picker.pick(m.size());
        int j = picker.pick(m.size());
        due("fits(" + i + ")", x.fits(i), m.fits(i));
        due("sizeAt(" + i + ")", x.sizeAt(i), m.sizeAt(i));
        due("same(" + i + ", " + j + ")", x.same(i, j) ? 1 : 0, m.same(i, j) ? 1 : 0);
    }
}
