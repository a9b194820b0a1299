/**
 * Terms that are rewritten by rules, at the outermost leftmost place first.
 *
 * Every term is held as its symbols in the order of its places. In that order a part of a term is
 * a run of neighbouring places, so that no tree has to be walked.
 */
public final class BottomUpRewriter {
    public static final int BAD_ARG = -1;
    public static final int FULL = -2;
    public static final int BAD_STACK = -3;
    public static final int NONE = -4;

    private static final int LAST_SYMBOL = 9;
    private static final int FIRST_WITH_ONE_PART = 3;
    private static final int FIRST_WITH_TWO_PARTS = 5;
    private static final int FIRST_VARIABLE = 7;
    private static final int VARIABLES = 3;

    private static final int MAX_PLACES = 31;
    private static final int MAX_STACK_TERMS = 6;
    private static final int MAX_RULES = 6;
    private static final int MAX_LEFT_SIZE = 7;
    private static final int MAX_STEPS = 40;
    private static final int ALL_LEFT_PLACES = MAX_RULES * MAX_LEFT_SIZE;
    private static final int ALL_RIGHT_PLACES = MAX_RULES * MAX_PLACES;

    // The stack's terms lie one behind the other, the lowest first.
    private final int[] stackSymbols = new int[MAX_PLACES];
    private final int[] stackStarts = new int[MAX_STACK_TERMS];
    private int stackPlaces;
    private int stackTerms;

    private final int[] leftSymbols = new int[ALL_LEFT_PLACES];
    private final int[] leftSizes = new int[MAX_RULES];
    private final int[] rightSymbols = new int[ALL_RIGHT_PLACES];
    private final int[] rightSizes = new int[MAX_RULES];
    private int ruleCount;

    private final int[] subjectSymbols = new int[MAX_PLACES];
    private int subjectSize;

    // The part of the subject that each variable was given when a rule was last found to fit.
    private final int[] givenStarts = new int[VARIABLES];
    private final int[] givenEnds = new int[VARIABLES];

    // The rewritten term grows here, since the variables' parts are read from the subject until
    // the end, and since a term that grows too large must leave the subject as it was.
    private final int[] nextSymbols = new int[MAX_PLACES];
    private int nextSize;

    public BottomUpRewriter() {
        subjectSymbols[0] = 0;
        subjectSize = 1;
    }

    public int build(int s) {
        if (s < 0 || s > LAST_SYMBOL) {
            return BAD_ARG;
        }
        int parts = partsOf(s);
        if (stackPlaces >= MAX_PLACES || (parts == 0 && stackTerms >= MAX_STACK_TERMS)) {
            return FULL;
        }
        if (stackTerms < parts) {
            return BAD_STACK;
        }
        int built = stackTerms - parts;
        int start = parts == 0 ? stackPlaces : stackStarts[built];
        insertOnStack(s, start);
        stackStarts[built] = start;
        stackTerms = built + 1;
        return stackTerms;
    }

    public int depth() {
        return stackTerms;
    }

    public void discard() {
        stackTerms = 0;
        stackPlaces = 0;
    }

    public int rule() {
        if (ruleCount >= MAX_RULES) {
            return FULL;
        }
        if (stackTerms < 2) {
            return BAD_STACK;
        }
        int left = stackStarts[stackTerms - 2];
        int right = stackStarts[stackTerms - 1];
        if (!canBeLeft(left, right) || !canBeRight(left, right)) {
            return BAD_STACK;
        }
        copyFromStack(left, right, leftSymbols, ruleCount * MAX_LEFT_SIZE);
        leftSizes[ruleCount] = right - left;
        copyFromStack(right, stackPlaces, rightSymbols, ruleCount * MAX_PLACES);
        rightSizes[ruleCount] = stackPlaces - right;
        stackTerms -= 2;
        stackPlaces = left;
        ruleCount++;
        return ruleCount - 1;
    }

    public int unrule() {
        if (ruleCount < 1) {
            return NONE;
        }
        ruleCount--;
        return ruleCount;
    }

    public int rules() {
        return ruleCount;
    }

    public int subject() {
        if (stackTerms < 1) {
            return BAD_STACK;
        }
        int start = stackStarts[stackTerms - 1];
        if (variablesOnStack(start, stackPlaces) != 0) {
            return BAD_STACK;
        }
        copyFromStack(start, stackPlaces, subjectSymbols, 0);
        subjectSize = stackPlaces - start;
        stackTerms--;
        stackPlaces = start;
        return subjectSize;
    }

    public int size() {
        return subjectSize;
    }

    public int symbol(int i) {
        return isPlace(i) ? subjectSymbols[i] : NONE;
    }

    public int fits(int i) {
        if (!isPlace(i)) {
            return NONE;
        }
        for (int r = 0; r < ruleCount; r++) {
            if (ruleFitsAt(r, i)) {
                return r;
            }
        }
        return NONE;
    }

    public int redexes() {
        int count = 0;
        for (int i = 0; i < subjectSize; i++) {
            if (fits(i) != NONE) {
                count++;
            }
        }
        return count;
    }

    public int step() {
        for (int i = 0; i < subjectSize; i++) {
            int r = fits(i);
            if (r != NONE) {
                return rewriteWithGiven(r, i) ? i : FULL;
            }
        }
        return NONE;
    }

    public int run(int n) {
        int done = 0;
        while (done < n && done < MAX_STEPS) {
            if (step() < 0) {
                return done;
            }
            done++;
        }
        return done;
    }

    public int sizeAt(int i) {
        return isPlace(i) ? endOfPart(i) - i : NONE;
    }

    public boolean same(int i, int j) {
        int length = sizeAt(i);
        if (length == NONE || length != sizeAt(j)) {
            return false;
        }
        for (int k = 0; k < length; k++) {
            if (subjectSymbols[i + k] != subjectSymbols[j + k]) {
                return false;
            }
        }
        return true;
    }

    public int digest() {
        int sum = 0;
        for (int i = 0; i < subjectSize; i++) {
            sum += (i + 1) * (subjectSymbols[i] + 1);
        }
        return sum;
    }

    private static boolean isVariable(int s) {
        return s >= FIRST_VARIABLE;
    }

    private static int partsOf(int s) {
        if (s < FIRST_WITH_ONE_PART || s >= FIRST_VARIABLE) {
            return 0;
        }
        return s < FIRST_WITH_TWO_PARTS ? 1 : 2;
    }

    private void insertOnStack(int s, int start) {
        for (int k = stackPlaces; k > start; k--) {
            stackSymbols[k] = stackSymbols[k - 1];
        }
        stackSymbols[start] = s;
        stackPlaces++;
    }

    private void copyFromStack(int start, int end, int[] target, int at) {
        for (int k = start; k < end; k++) {
            target[at + k - start] = stackSymbols[k];
        }
    }

    private static int variableBit(int s) {
        return isVariable(s) ? 1 << (s - FIRST_VARIABLE) : 0;
    }

    private int variablesOnStack(int start, int end) {
        int found = 0;
        for (int k = start; k < end; k++) {
            found |= variableBit(stackSymbols[k]);
        }
        return found;
    }

    private boolean canBeLeft(int start, int end) {
        if (isVariable(stackSymbols[start]) || end - start > MAX_LEFT_SIZE) {
            return false;
        }
        int seen = 0;
        for (int k = start; k < end; k++) {
            int bit = variableBit(stackSymbols[k]);
            if ((seen & bit) != 0) {
                return false;
            }
            seen |= bit;
        }
        return true;
    }

    private boolean canBeRight(int left, int right) {
        int known = variablesOnStack(left, right);
        int used = variablesOnStack(right, stackPlaces);
        return (used & ~known) == 0;
    }

    private boolean isPlace(int i) {
        return i >= 0 && i < subjectSize;
    }

    private int endOfPart(int i) {
        int missing = 1;
        int end = i;
        while (missing > 0 && end < subjectSize) {
            missing += partsOf(subjectSymbols[end]) - 1;
            end++;
        }
        return end;
    }

    private boolean ruleFitsAt(int r, int i) {
        int place = i;
        for (int k = 0; k < leftSizes[r]; k++) {
            int s = leftSymbols[r * MAX_LEFT_SIZE + k];
            if (!isPlace(place)) {
                return false;
            }
            if (isVariable(s)) {
                int end = endOfPart(place);
                givenStarts[s - FIRST_VARIABLE] = place;
                givenEnds[s - FIRST_VARIABLE] = end;
                place = end;
            } else if (s == subjectSymbols[place]) {
                place++;
            } else {
                return false;
            }
        }
        return true;
    }

    // Correct only straight after fits(place) answered r: a later search for a fit gives the
    // variables other parts.
    private boolean rewriteWithGiven(int r, int place) {
        int end = endOfPart(place);
        nextSize = 0;
        appendFromSubject(0, place);
        appendRight(r);
        appendFromSubject(end, subjectSize);
        if (nextSize > MAX_PLACES) {
            return false;
        }
        for (int k = 0; k < nextSize; k++) {
            subjectSymbols[k] = nextSymbols[k];
        }
        subjectSize = nextSize;
        return true;
    }

    private void appendRight(int r) {
        for (int k = 0; k < rightSizes[r]; k++) {
            int s = rightSymbols[r * MAX_PLACES + k];
            if (isVariable(s)) {
                int v = s - FIRST_VARIABLE;
                appendFromSubject(givenStarts[v], givenEnds[v]);
            } else {
                append(s);
            }
        }
    }

    private void appendFromSubject(int start, int end) {
        for (int k = start; k < end; k++) {
            append(subjectSymbols[k]);
        }
    }

    // Counts past the limit without writing, so that the size tells whether the term was too large.
    private void append(int s) {
        if (nextSize < MAX_PLACES) {
            nextSymbols[nextSize] = s;
        }
        nextSize++;
    }
}
