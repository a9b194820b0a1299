/** The ordinary cases of promises 8 to 10 and 15 to 17: subject, size, symbol, sizeAt, same, digest. */
public final class SubjectTest {
    public static void main(String[] args) {
        taking();
        places();
        partSizes();
        sameParts();
        differentParts();
        digests();
        Check.finish("SubjectTest");
    }

    private static void taking() {
        BottomUpRewriter x = new BottomUpRewriter();
        Check.push(x, 1, 2, 3, 0, 6);
        Check.due("subject()", x.subject(), 4);
        Check.due("size()", x.size(), 4);
        Check.due("depth()", x.depth(), 1);
        Check.dueSubject("the top", x, 6, 3, 2, 0);
        Check.due("subject() again", x.subject(), 1);
        Check.due("depth() then", x.depth(), 0);
        Check.dueSubject("the one below", x, 1);
        Check.push(x, 2, 3);
        Check.dueSubject("building leaves the subject", x, 1);
    }

    private static BottomUpRewriter sample() {
        BottomUpRewriter x = new BottomUpRewriter();
        // Places: 0:5 1:3 2:6 3:0 4:1 5:4 6:6 7:0 8:1
        Check.makeSubject(x, 0, 1, 6, 3, 0, 1, 6, 4, 5);
        return x;
    }

    private static void places() {
        Check.dueSubject("the sample", sample(), 5, 3, 6, 0, 1, 4, 6, 0, 1);
    }

    private static void partSizes() {
        BottomUpRewriter x = sample();
        int[] sizes = {9, 4, 3, 1, 1, 4, 3, 1, 1};
        for (int i = 0; i < sizes.length; i++) {
            Check.due("sizeAt(" + i + ")", x.sizeAt(i), sizes[i]);
        }
    }

    private static void sameParts() {
        BottomUpRewriter x = sample();
        int[][] pairs = {{2, 6}, {3, 7}, {4, 8}};
        for (int i = 0; i < 9; i++) {
            for (int j = 0; j < 9; j++) {
                boolean want = i == j;
                for (int[] pair : pairs) {
                    want |= i == pair[0] && j == pair[1] || i == pair[1] && j == pair[0];
                }
                Check.due("same(" + i + ", " + j + ")", x.same(i, j), want);
            }
        }
    }

    private static void differentParts() {
        BottomUpRewriter x = new BottomUpRewriter();
        // Places: 0:5 1:6 2:0 3:1 4:6 5:1 6:0, alike but for the order of the parts.
        Check.makeSubject(x, 0, 1, 6, 1, 0, 6, 5);
        Check.due("same(1, 4)", x.same(1, 4), false);
        Check.due("same(2, 6)", x.same(2, 6), true);
        // Places: 0:5 1:6 2:0 3:1 4:6 5:0 6:2, alike but for the last symbol.
        Check.makeSubject(x, 0, 1, 6, 0, 2, 6, 5);
        Check.due("same(1, 4)", x.same(1, 4), false);
        // Places: 0:5 1:3 2:3 3:0 4:3 5:0, one the start of the other but for its size.
        Check.makeSubject(x, 0, 3, 3, 0, 3, 5);
        Check.due("same(1, 4)", x.same(1, 4), false);
        Check.due("same(2, 4)", x.same(2, 4), true);
    }

    private static void digests() {
        BottomUpRewriter x = new BottomUpRewriter();
        Check.due("digest() of 0", x.digest(), 1);
        Check.makeSubject(x, 2);
        Check.due("digest() of 2", x.digest(), 3);
        Check.makeSubject(x, 0, 1, 6);
        Check.due("digest() of 6 0 1", x.digest(), 7 + 2 * 1 + 3 * 2);
        Check.due("digest() of the sample", sample().digest(), 6 + 8 + 21 + 4 + 10 + 30 + 49 + 8 + 18);
    }
}
