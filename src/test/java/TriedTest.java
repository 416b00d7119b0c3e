/** Promises 3 and 4: test and about. */
public final class TriedTest {
    private static final Due DUE = new Due("TriedTest");

    public static void main(String[] args) {
        testsAreNumberedFromZero();
        twentyFourAtMost();
        wrongRoots();
        wrongAbout();
        boundOfThreeThousand();
        cutTestCoversWhatItCameBy();
        sharedNodesCountOnce();
        DUE.end();
    }

    private static void testsAreNumberedFromZero() {
        MutantRows x = new MutantRows();
        x.node(1, 0, 0, 0);
        DUE.is("first", x.test(0, 5, 5), 0);
        DUE.is("the same again is another", x.test(0, 5, 5), 1);
        DUE.is("one that fails", x.test(0, 5, 6), 2);
        DUE.is("first passes", x.about(0, 0), 1);
        DUE.is("last fails", x.about(2, 0), 0);
        DUE.is("steps", x.about(2, 1), 1);
        DUE.is("covers also if it fails", x.about(2, 2), 1);
    }

    private static void twentyFourAtMost() {
        MutantRows x = new MutantRows();
        x.node(1, 0, 0, 0);
        for (int i = 0; i < 24; i++) {
            DUE.is("test " + i, x.test(0, i, i), i);
        }
        DUE.is("the 25th", x.test(0, 1, 1), -1);
        DUE.is("about the 25th", x.about(24, 0), -1);
        DUE.is("about the 24th", x.about(23, 0), 1);
    }

    private static void wrongRoots() {
        MutantRows x = new MutantRows();
        x.node(1, 0, 0, 0);
        int[] roots = {-1, 1, 64, Integer.MAX_VALUE, Integer.MIN_VALUE};
        for (int root : roots) {
            DUE.is("test of root " + root, x.test(root, 0, 0), -1);
        }
        DUE.is("test behind refused ones", x.test(0, 0, 0), 0);
    }

    private static void wrongAbout() {
        MutantRows x = new MutantRows();
        x.node(1, 0, 0, 0);
        x.test(0, 3, 3);
        int[] wrong = {-1, 3, 100, Integer.MAX_VALUE, Integer.MIN_VALUE};
        for (int w : wrong) {
            DUE.is("about(0, " + w + ")", x.about(0, w), -1);
            DUE.is("about(" + w + ", 0)", x.about(w, 0), -1);
        }
        DUE.is("about(1, 0)", x.about(1, 0), -1);
    }

    /** Counts by 1 up to the input at NODE 4, in 2 + 4 * input steps. */
    private static MutantRows counting() {
        MutantRows x = new MutantRows();
        x.node(1, 0, 0, 0);
        x.node(2, 0, 0, 0);
        x.node(0, 1, 0, 0);
        x.node(3, 1, 2, 0);
        x.node(9, 0, 3, 0);
        return x;
    }

    private static void boundOfThreeThousand() {
        MutantRows x = counting();
        x.test(4, 749, 749);
        DUE.is("2998 steps pass", x.about(0, 0), 1);
        DUE.is("2998 steps", x.about(0, 1), 2998);
        int sum = x.node(3, 2, 4, 0);
        x.test(sum, 749, 750);
        DUE.is("3000 steps pass", x.about(1, 0), 1);
        DUE.is("3000 steps", x.about(1, 1), 3000);
        x.test(sum, 749, 751);
        DUE.is("3000 steps fail", x.about(2, 0), 0);
        int noLoop = x.node(0, 0, 0, 0);
        int last = x.node(9, noLoop, 2, 0);
        int odd = x.node(3, last, 4, 0);
        x.test(odd, 749, 749);
        DUE.is("3001 steps are cut", x.about(3, 0), -2);
        DUE.is("3000 steps if cut", x.about(3, 1), 3000);
        x.test(odd, 748, 748);
        DUE.is("2997 steps pass", x.about(4, 0), 1);
        DUE.is("2997 steps", x.about(4, 1), 2997);
    }

    private static void cutTestCoversWhatItCameBy() {
        MutantRows x = new MutantRows();
        x.node(0, 1, 0, 0);
        x.node(0, 0, 0, 0);
        x.node(9, 0, 1, 0);
        x.node(0, 5, 0, 0);
        x.node(3, 2, 3, 0);
        x.test(4, 0, 5);
        DUE.is("a loop without end is cut", x.about(0, 0), -2);
        DUE.is("3000 steps", x.about(0, 1), 3000);
        DUE.is("all but the NUMBER behind the loop", x.about(0, 2), 4);
        x.test(4, 0, 0);
        DUE.is("no number is wanted of a cut one", x.about(1, 0), -2);
        MutantRows y = counting();
        y.node(0, 9, 0, 0);
        y.node(3, 4, 5, 0);
        y.node(9, 6, 2, 0);
        y.test(6, 749, 758);
        y.test(7, 749, 759);
        DUE.is("3000 steps in all", y.about(0, 1), 3000);
        DUE.is("the NUMBER is the last step", y.about(0, 2), 7);
        DUE.is("cut at the NUMBER", y.about(1, 0), -2);
        DUE.is("the step that would be one more covers nothing", y.about(1, 2), 7);
    }

    private static void sharedNodesCountOnce() {
        MutantRows x = new MutantRows();
        x.node(1, 0, 0, 0);
        x.node(5, 0, 0, 0);
        x.node(3, 1, 1, 0);
        x.test(2, 3, 18);
        DUE.is("steps count each time", x.about(0, 1), 7);
        DUE.is("covered counts once", x.about(0, 2), 3);
        DUE.is("passes", x.about(0, 0), 1);
    }
}
