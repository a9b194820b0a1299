/** All promises: long mixed runs of calls, answered by the class and by the model. */
public final class ModelTest {
    private static final int RUNS = 3000;
    private static final int CALLS = 480;

    private final int run;
    private final Picker picker;
    private final BottomUpRewriter x = new BottomUpRewriter();
    private final Model m = new Model();

    private ModelTest(int run) {
        this.run = run;
        this.picker = new Picker(run);
    }

    public static void main(String[] args) {
        for (int run = 0; run < RUNS; run++) {
            new ModelTest(run).compareRun();
        }
        Check.finish("ModelTest");
    }

    private int pickPlace() {
        return picker.pick(20) == 0 ? picker.pick(80) - 40 : picker.pick(12);
    }

    /** Some runs favour constants, some large terms, so that both limits of the stack are met. */
    private int pickSymbol() {
        int kind = picker.pick(40);
        if (kind == 0) {
            return picker.pick(14) - 2;
        }
        if (run % 3 == 0 && kind < 20) {
            return 3 + picker.pick(2);
        }
        if (run % 3 == 1 && kind < 10) {
            return picker.pick(3);
        }
        return picker.pick(10);
    }

    private void compareRun() {
        for (int call = 0; call < CALLS; call++) {
            compareCall();
        }
        for (int i = 0; i < 31; i++) {
            Check.due("run " + run + ": symbol(" + i + ") at the end", x.symbol(i), m.symbol(i));
        }
    }

    private void compareCall() {
        String at = "run " + run + ": ";
        int i = pickPlace();
        int j = pickPlace();
        int s = pickSymbol();
        int call = picker.pick(64);
        switch (call) {
            case 0, 1, 2, 3, 4 -> Check.due(at + "rule()", x.rule(), m.rule());
            case 5 -> Check.due(at + "unrule()", x.unrule(), m.unrule());
            case 6, 7, 8 -> Check.due(at + "subject()", x.subject(), m.subject());
            case 9, 10 -> Check.due(at + "symbol(" + i + ")", x.symbol(i), m.symbol(i));
            case 11, 12 -> Check.due(at + "fits(" + i + ")", x.fits(i), m.fits(i));
            case 13, 14 -> Check.due(at + "redexes()", x.redexes(), m.redexes());
            case 15, 16, 17 -> Check.due(at + "step()", x.step(), m.step());
            case 18 -> Check.due(at + "run(" + i + ")", x.run(i), m.run(i));
            case 19, 20 -> Check.due(at + "sizeAt(" + i + ")", x.sizeAt(i), m.sizeAt(i));
            case 21, 22, 23 -> Check.due(at + "same(" + i + ", " + j + ")", x.same(i, j), m.same(i, j));
            case 24, 25 -> Check.due(at + "digest()", x.digest(), m.digest());
            case 26 -> Check.due(at + "size()", x.size(), m.size());
            case 27 -> Check.due(at + "rules()", x.rules(), m.rules());
            case 28 -> Check.due(at + "depth()", x.depth(), m.depth());
            case 29 -> {
                if (picker.pick(4) == 0) {
                    x.discard();
                    m.discard();
                }
            }
            default -> Check.due(at + "build(" + s + ")", x.build(s), m.build(s));
        }
    }
}
