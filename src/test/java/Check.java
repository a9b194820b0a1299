import java.util.Arrays;

/** What the tests share: comparing answers, and pushing whole terms. */
final class Check {
    private static int calls = 0;
    private static int wrong = 0;
    private static String sentence = "";

    private Check() {
    }

    /** The sentence of the document that the next answers are about; a wrong one is told with it. */
    static void sentence(String words) {
        sentence = "\"" + words + "\": ";
    }

    static void due(String what, long got, long want) {
        calls++;
        if (got != want) {
            wrong++;
            System.out.println(sentence + what + " answered " + got + ", due is " + want);
        }
    }

    static void due(String what, boolean got, boolean want) {
        due(what, got ? 1 : 0, want ? 1 : 0);
    }

    /** Builds these symbols, parts before the symbol that takes them; none may be refused. */
    static void push(BottomUpRewriter x, int... symbols) {
        for (int s : symbols) {
            int got = x.build(s);
            due("build(" + s + ") is taken", got > 0, true);
        }
    }

    static int[] times(int count, int symbol) {
        int[] symbols = new int[count];
        Arrays.fill(symbols, symbol);
        return symbols;
    }

    /** A term of this size, as for push: the last symbol stands inside symbols with one part. */
    static int[] chain(int size, int outer, int last) {
        int[] symbols = times(size, outer);
        symbols[0] = last;
        return symbols;
    }

    static void makeSubject(BottomUpRewriter x, int... symbols) {
        push(x, symbols);
        due("subject() is taken", x.subject() > 0, true);
    }

    /** Makes a rule, with the left and the right term given as for push. */
    static void makeRule(BottomUpRewriter x, int[] left, int... right) {
        int number = x.rules();
        push(x, left);
        push(x, right);
        due("rule() is taken", x.rule(), number);
    }

    static int[] term(int... symbols) {
        return symbols;
    }

    /** Compares the whole subject, given as its symbols in the order of the places. */
    static void dueSubject(String what, BottomUpRewriter x, int... symbols) {
        due(what + ": size()", x.size(), symbols.length);
        for (int i = 0; i < symbols.length; i++) {
            due(what + ": symbol(" + i + ")", x.symbol(i), symbols[i]);
        }
        due(what + ": no place behind the last", x.symbol(symbols.length), BottomUpRewriter.NONE);
    }

    static void finish(String test) {
        System.out.println(test + ": " + calls + " answers, " + wrong + " not as due");
        if (wrong != 0) {
            System.exit(1);
        }
    }
}
