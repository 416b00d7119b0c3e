/** Promises 7, 8 and 9: run, order and distance. */
public final class RunsTest {
    private static final Due DUE = new Due("RunsTest");

    public static void main(String[] args) {
        changesOfEachKind();
        cutKilledSurvived();
        boundsOfRuns();
        wrongArguments();
        nearestFirst();
        onlyPassingAndCovering();
        firstEnderIsTold();
        changedWhereverItIs();
        runDoesNotTouchTests();
        distances();
        DUE.end();
    }

    /** The outcome of a KIND's MUTANT at a root over NUMBERS a, b, c, for a TEST that passes. */
    private static int outcome(int kind, int nodeKind, long a, long b, long c, long wanted) {
        MutantRows x = new MutantRows();
        x.node(0, a, 0, 0);
        x.node(0, b, 0, 0);
        x.node(0, c, 0, 0);
        x.node(nodeKind, 0, 1, 2);
        x.test(3, 0, wanted);
        DUE.is("kind " + nodeKind + " passes", x.about(0, 0), 1);
        DUE.is("one mutant", x.make(kind), 1);
        return x.run(0, 100);
    }

    private static void changesOfEachKind() {
        DUE.is("3 < 3 or same", outcome(1, 6, 3, 3, 0, 0), 1);
        DUE.is("2 < 3 or same", outcome(1, 6, 2, 3, 0, 1), 0);
        DUE.is("4 < 3 or same", outcome(1, 6, 4, 3, 0, 0), 0);
        DUE.is("4 + 3 turned", outcome(2, 3, 4, 3, 0, 7), 1);
        DUE.is("4 + 0 turned", outcome(2, 3, 4, 0, 0, 4), 0);
        DUE.is("4 - 3 turned", outcome(2, 4, 4, 3, 0, 1), 1);
        DUE.is("4 - 0 turned", outcome(2, 4, 4, 0, 0, 4), 0);
        DUE.is("4 + 2^63 turned", outcome(2, 3, 4, Long.MIN_VALUE, 0, Long.MIN_VALUE + 4), 0);
        DUE.is("choice swapped", outcome(3, 8, 1, 5, 6, 5), 1);
        DUE.is("choice swapped the other way", outcome(3, 8, 0, 5, 6, 6), 1);
        DUE.is("choice of the same", outcome(3, 8, 1, 5, 5, 5), 0);
        DUE.is("4 + 3 alone", outcome(4, 3, 4, 3, 0, 7), 1);
        DUE.is("4 - 0 alone", outcome(4, 4, 4, 0, 0, 4), 0);
        DUE.is("4 - 1 alone", outcome(4, 4, 4, 1, 0, 3), 1);
        DUE.is("4 * 3 alone", outcome(4, 5, 4, 3, 0, 12), 1);
        DUE.is("0 * 3 alone", outcome(4, 5, 0, 3, 0, 0), 0);
        DUE.is("3 = 3 turned", outcome(5, 7, 3, 3, 0, 1), 1);
        DUE.is("3 = 4 turned", outcome(5, 7, 3, 4, 0, 0), 1);
        MutantRows x = new MutantRows();
        x.node(0, Long.MAX_VALUE, 0, 0);
        x.node(1, 0, 0, 0);
        x.node(6, 1, 0, 0);
        x.test(2, 5, 1);
        x.make(0);
        DUE.is("one more wraps around", x.run(0, 10), 1);
    }

    /** A loop that counts by a NUMBER up to the input. */
    private static MutantRows counting() {
        MutantRows x = new MutantRows();
        x.node(1, 0, 0, 0);
        x.node(2, 0, 0, 0);
        x.node(0, 1, 0, 0);
        x.node(3, 1, 2, 0);
        x.node(9, 0, 3, 0);
        return x;
    }

    private static void cutKilledSurvived() {
        MutantRows x = counting();
        x.test(4, 2, 2);
        x.make(0);
        x.make(2);
        x.make(4);
        DUE.is("by 2 to 2 survives", x.run(0, 100), 0);
        DUE.is("its ender", x.mutant(0, 3), -1);
        DUE.is("its outcome", x.mutant(0, 2), 0);
        DUE.is("downwards is cut", x.run(1, 5000), 2);
        DUE.is("its ender", x.mutant(1, 3), 0);
        DUE.is("standing still is cut", x.run(2, 5000), 2);
        x.test(4, 5, 5);
        DUE.is("kept over a new TEST", x.mutant(0, 2), 0);
        DUE.is("by 2 to 5 is killed", x.run(0, 100), 1);
        DUE.is("its ender", x.mutant(0, 3), 1);
    }

    private static void boundsOfRuns() {
        MutantRows x = counting();
        x.test(4, 2, 2);
        x.make(0);
        // One turn by 2: itself, two ends, three steps.
        DUE.is("6 steps of 6", x.run(0, 6), 0);
        DUE.is("6 steps of 5", x.run(0, 5), 2);
        DUE.is("told anew", x.mutant(0, 2), 2);
        DUE.is("the ender too", x.mutant(0, 3), 0);
        DUE.is("again of 6", x.run(0, 6), 0);
        DUE.is("no ender any more", x.mutant(0, 3), -1);
        DUE.is("1 step", x.run(0, 1), 2);
        DUE.is("bound 0", x.run(0, 0), -1);
        DUE.is("bound -1", x.run(0, -1), -1);
        DUE.is("bound 5001", x.run(0, 5001), -1);
        DUE.is("bound highest", x.run(0, Integer.MAX_VALUE), -1);
        DUE.is("kept over wrong bounds", x.mutant(0, 2), 2);
        DUE.is("bound 5000", x.run(0, 5000), 0);
        // The loop is the branch that only the MUTANT takes: 2 + 4 * 1249 steps.
        MutantRows y = counting();
        y.node(0, 0, 0, 0);
        y.node(8, 5, 4, 0);
        y.test(6, 1249, 1249);
        y.make(3);
        DUE.is("the loop isn't worked out", y.about(0, 1), 3);
        DUE.is("1 + 1 + 4998 steps pass 5000", y.run(0, 5000), 0);
        DUE.is("but not 4999", y.run(0, 4999), 2);
    }

    private static void wrongArguments() {
        MutantRows x = counting();
        x.test(4, 2, 2);
        x.make(0);
        int[] wrong = {-1, 1, 100, Integer.MAX_VALUE, Integer.MIN_VALUE};
        for (int w : wrong) {
            DUE.is("run(" + w + ", 10)", x.run(w, 10), -1);
            DUE.is("order(" + w + ", 0)", x.order(w, 0), -1);
            DUE.is("order(0, " + w + ")", x.order(0, w), -1);
            DUE.is("distance(" + w + ", 0)", x.distance(w, 0), -1);
        }
        DUE.is("order(0, 0)", x.order(0, 0), 0);
        DUE.is("distance(0, -1)", x.distance(0, -1), -1);
        DUE.is("distance(0, 5)", x.distance(0, 5), -1);
        DUE.is("distance(0, lowest)", x.distance(0, Integer.MIN_VALUE), -1);
        DUE.is("distance(0, highest)", x.distance(0, Integer.MAX_VALUE), -1);
    }

    /** A tower of ADDs over one NUMBER; TESTS at several heights. */
    private static void nearestFirst() {
        MutantRows x = new MutantRows();
        x.node(0, 1, 0, 0);
        x.node(1, 0, 0, 0);
        x.node(3, 0, 1, 0);
        x.node(3, 2, 1, 0);
        x.node(3, 3, 1, 0);
        int[] roots = {4, 3, 0, 4, 2, 3, 0};
        for (int root : roots) {
            x.test(root, 0, 1);
        }
        x.make(0);
        int[] due = {2, 6, 4, 1, 5, 0, 3};
        for (int i = 0; i < due.length; i++) {
            DUE.is("order(0, " + i + ")", x.order(0, i), due[i]);
        }
        DUE.is("order(0, 7)", x.order(0, 7), -1);
        DUE.is("killed", x.run(0, 50), 1);
        DUE.is("by the nearest", x.mutant(0, 3), 2);
    }

    private static void onlyPassingAndCovering() {
        MutantRows x = new MutantRows();
        x.node(1, 0, 0, 0);
        x.node(0, 10, 0, 0);
        x.node(0, 20, 0, 0);
        x.node(8, 0, 1, 2);
        x.test(3, 1, 11);
        x.test(3, 0, 20);
        x.test(3, 1, 10);
        x.test(2, 0, 20);
        x.make(0);
        DUE.is("node of 0", x.mutant(0, 1), 1);
        DUE.is("order(0, 0)", x.order(0, 0), 2);
        DUE.is("order(0, 1)", x.order(0, 1), -1);
        DUE.is("order(1, 0)", x.order(1, 0), 3);
        DUE.is("order(1, 1)", x.order(1, 1), 1);
        DUE.is("order(1, 2)", x.order(1, 2), -1);
        x.change(1, 12);
        DUE.is("none passes any more", x.order(0, 0), -1);
        DUE.is("none to run it by: it survives", x.run(0, 10), 0);
        DUE.is("no ender", x.mutant(0, 3), -1);
    }

    private static void firstEnderIsTold() {
        MutantRows x = counting();
        x.test(4, 2, 2);
        x.test(4, 4, 4);
        x.test(4, 3, 3);
        x.test(4, 5, 5);
        x.make(0);
        DUE.is("killed", x.run(0, 100), 1);
        DUE.is("by the first that isn't wanted", x.mutant(0, 3), 2);
        // By twos to 4: 1 + 3 + 2 * 3 steps, to 2: 1 + 2 + 3.
        DUE.is("cut", x.run(0, 9), 2);
        DUE.is("by the first that is cut", x.mutant(0, 3), 1);
    }

    private static void changedWhereverItIs() {
        MutantRows x = new MutantRows();
        x.node(1, 0, 0, 0);
        x.node(0, 5, 0, 0);
        x.node(3, 0, 1, 0);
        x.node(4, 2, 2, 0);
        x.node(4, 1, 1, 0);
        x.test(3, 7, 0);
        x.test(4, 7, 0);
        x.make(0);
        x.make(2);
        DUE.is("a NUMBER in both parts", x.run(0, 100), 0);
        DUE.is("an ADD in both parts", x.run(1, 100), 0);
        DUE.is("the SUB above them", x.run(2, 100), 1);
        // FIRST_ALONE doesn't work b out: fewer steps than the TEST itself.
        MutantRows y = new MutantRows();
        y.node(1, 0, 0, 0);
        y.node(0, 0, 0, 0);
        y.node(3, 0, 1, 0);
        y.test(2, 7, 7);
        y.make(4);
        y.make(2);
        DUE.is("a alone in 2 steps", y.run(0, 2), 0);
        DUE.is("both in 3 steps", y.run(1, 2), 2);
    }

    private static void runDoesNotTouchTests() {
        MutantRows x = new MutantRows();
        x.node(0, 1, 0, 0);
        x.node(0, 5, 0, 0);
        x.node(1, 0, 0, 0);
        x.node(5, 2, 2, 0);
        x.node(8, 0, 1, 3);
        x.test(4, 0, 5);
        x.make(3);
        DUE.is("steps before", x.about(0, 1), 3);
        DUE.is("swapped", x.run(0, 100), 1);
        DUE.is("steps behind", x.about(0, 1), 3);
        DUE.is("covers behind", x.about(0, 2), 3);
        DUE.is("passes behind", x.about(0, 0), 1);
        x.test(4, 0, 5);
        DUE.is("a new TEST is tried without the change", x.about(1, 0), 1);
        DUE.is("no mutant of what only a mutant came by", x.make(4), 0);
    }

    private static void distances() {
        MutantRows x = new MutantRows();
        x.node(1, 0, 0, 0);
        x.node(0, 1, 0, 0);
        x.node(3, 0, 1, 0);
        x.node(3, 2, 1, 0);
        x.node(8, 3, 3, 1);
        x.node(9, 4, 2, 0);
        x.node(2, 0, 0, 0);
        int[][] due = {{2, 2, 1, 2, 1, 0, -1}, {3, 1, 2, 1, 0, -1, -1}, {0, -1, -1, -1, -1, -1, -1}};
        int[] roots = {5, 4, 0};
        for (int t = 0; t < roots.length; t++) {
            x.test(roots[t], 0, 0);
            for (int n = 0; n < due[t].length; n++) {
                DUE.is("distance(" + t + ", " + n + ")", x.distance(t, n), due[t][n]);
            }
        }
        MutantRows y = new MutantRows();
        for (int i = 0; i < 64; i++) {
            y.node(i == 0 ? 1 : 3, Math.max(i - 1, 0), Math.max(i - 1, 0), 0);
        }
        y.test(63, 0, 0);
        DUE.is("the longest way", y.distance(0, 0), 63);
        DUE.is("a TEST that is cut has distances too", y.about(0, 0), -2);
    }
}
