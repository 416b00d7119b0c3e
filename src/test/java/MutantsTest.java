/** Promises 5 and 6: make and mutant, with what is proved ALIKE. */
public final class MutantsTest {
    private static final Due DUE = new Due("MutantsTest");

    public static void main(String[] args) {
        kindsFitNodes();
        onlyCoveredByPassing();
        neverTwice();
        hundredAtMost();
        wrongArguments();
        alikeLess();
        alikeSigns();
        alikeBranches();
        alikeFirstAlone();
        othersAreNeverAlike();
        alikeOfDeepTrees();
        DUE.end();
    }

    /** One NODE of each kind, all of them covered by a TEST that passes. */
    private static MutantRows oneOfEach() {
        MutantRows x = new MutantRows();
        x.node(0, 6, 0, 0);
        x.node(1, 0, 0, 0);
        x.node(2, 0, 0, 0);
        for (int kind = 3; kind <= 9; kind++) {
            x.node(kind, 2, 1, 0);
            x.test(kind, 0, 0);
        }
        x.test(0, 0, 6);
        x.test(8, 0, 6);
        x.test(7, 0, 1);
        return x;
    }

    private static void kindsFitNodes() {
        MutantRows x = oneOfEach();
        int[][] due = {{0}, {6}, {3, 4}, {8}, {3, 4, 5}, {7}};
        int number = 0;
        for (int kind = 0; kind < due.length; kind++) {
            DUE.is("make(" + kind + ")", x.make(kind), due[kind].length);
            for (int node : due[kind]) {
                DUE.is("kind of " + number, x.mutant(number, 0), kind);
                DUE.is("node of " + number, x.mutant(number, 1), node);
                DUE.is("outcome of " + number, x.mutant(number, 2), -1);
                DUE.is("ender of " + number, x.mutant(number, 3), -1);
                number++;
            }
        }
        DUE.is("no more", x.mutant(number, 0), -1);
    }

    private static void onlyCoveredByPassing() {
        MutantRows x = new MutantRows();
        x.node(1, 0, 0, 0);
        x.node(0, 10, 0, 0);
        x.node(0, 20, 0, 0);
        x.node(8, 0, 1, 2);
        DUE.is("no TESTS yet", x.make(0), 0);
        x.test(3, 1, 99);
        DUE.is("a TEST that fails", x.make(0), 0);
        x.test(3, 0, 20);
        DUE.is("a TEST that passes", x.make(0), 1);
        DUE.is("it covers the other branch", x.mutant(0, 1), 2);
        x.test(3, 1, 10);
        DUE.is("now the first branch too", x.make(0), 1);
        DUE.is("that is new", x.mutant(1, 1), 1);
        MutantRows y = new MutantRows();
        y.node(0, 1, 0, 0);
        y.node(0, 0, 0, 0);
        y.node(9, 0, 1, 0);
        y.test(2, 0, 0);
        DUE.is("a TEST that is cut", y.make(0), 0);
    }

    private static void neverTwice() {
        MutantRows x = oneOfEach();
        DUE.is("make(4)", x.make(4), 3);
        DUE.is("make(4) again", x.make(4), 0);
        DUE.is("make(2) at the same nodes", x.make(2), 2);
        DUE.is("make(2) again", x.make(2), 0);
        x.run(0, 100);
        DUE.is("make(4) behind a run", x.make(4), 0);
    }

    private static void hundredAtMost() {
        MutantRows x = new MutantRows();
        x.node(1, 0, 0, 0);
        for (int i = 1; i < 64; i++) {
            x.node(3, i - 1, 0, 0);
        }
        x.test(63, 1, 64);
        DUE.is("63 signs", x.make(2), 63);
        DUE.is("37 more", x.make(4), 37);
        DUE.is("the last one's kind", x.mutant(99, 0), 4);
        DUE.is("the last one's node", x.mutant(99, 1), 37);
        DUE.is("none behind it", x.mutant(100, 0), -1);
        DUE.is("none more", x.make(4), 0);
        DUE.is("none of another kind", x.make(0), 0);
        DUE.is("no such kind also now", x.make(6), -1);
        DUE.is("a sample of all", x.sample(3, 100), true);
        DUE.is("a sample of more", x.sample(3, 101), false);
        DUE.is("run of the last one", x.run(99, 5000), 1);
    }

    private static void wrongArguments() {
        MutantRows x = oneOfEach();
        x.make(2);
        int[] wrong = {-1, 6, 100, Integer.MAX_VALUE, Integer.MIN_VALUE};
        for (int w : wrong) {
            DUE.is("make(" + w + ")", x.make(w), -1);
            DUE.is("mutant(" + w + ", 0)", x.mutant(w, 0), -1);
            DUE.is("mutant(0, " + w + ")", x.mutant(0, w), -1);
        }
        DUE.is("mutant(0, 5)", x.mutant(0, 5), -1);
        DUE.is("mutant(2, 1)", x.mutant(2, 1), -1);
        DUE.is("nothing came by wrong kinds", x.mutant(1, 1), 4);
    }

    /** Whether the MUTANT of a KIND at the last NODE of a tree is ALIKE. */
    private static void alike(String what, int kind, int[][] nodes, int want) {
        MutantRows x = new MutantRows();
        int root = -1;
        for (int[] n : nodes) {
            root = x.node(n[0], n[1], n.length > 2 ? n[2] : 0, n.length > 3 ? n[3] : 0);
        }
        DUE.is(what + " is built", root, nodes.length - 1);
        // One of these TESTS passes, as all trees here are small ones.
        for (int wanted = -8; wanted < 16; wanted++) {
            x.test(root, 3, wanted);
        }
        x.make(kind);
        int found = -1;
        for (int i = 0; x.mutant(i, 0) != -1; i++) {
            found = x.mutant(i, 1) == root ? i : found;
        }
        DUE.is(what, found == -1 ? -1 : x.mutant(found, 4), want);
    }

    private static void alikeLess() {
        alike("3 < 4", 1, new int[][] {{0, 3}, {0, 4}, {6, 0, 1}}, 1);
        alike("4 < 3", 1, new int[][] {{0, 4}, {0, 3}, {6, 0, 1}}, 1);
        alike("4 < 4", 1, new int[][] {{0, 4}, {0, 4}, {6, 0, 1}}, 0);
        alike("n < n", 1, new int[][] {{0, 4}, {6, 0, 0}}, 0);
        alike("input < 4", 1, new int[][] {{1, 0}, {0, 4}, {6, 0, 1}}, 0);
        alike("4 < input", 1, new int[][] {{0, 4}, {1, 0}, {6, 0, 1}}, 0);
    }

    private static void alikeSigns() {
        alike("input + 0", 2, new int[][] {{1, 0}, {0, 0}, {3, 0, 1}}, 1);
        alike("input - 0", 2, new int[][] {{1, 0}, {0, 0}, {4, 0, 1}}, 1);
        alike("0 + input", 2, new int[][] {{1, 0}, {0, 0}, {3, 1, 0}}, 0);
        alike("input + 1", 2, new int[][] {{1, 0}, {0, 1}, {3, 0, 1}}, 0);
        alike("input + acc", 2, new int[][] {{1, 0}, {2, 0}, {3, 0, 1}}, 0);
    }

    private static void alikeBranches() {
        alike("the same node", 3, new int[][] {{1, 0}, {8, 0, 0, 0}}, 1);
        alike("the same number", 3, new int[][] {{1, 0}, {0, 7}, {0, 7}, {8, 0, 1, 2}}, 1);
        alike("other numbers", 3, new int[][] {{1, 0}, {0, 7}, {0, 8}, {8, 0, 1, 2}}, 0);
        alike("two inputs", 3, new int[][] {{1, 0}, {1, 0}, {8, 0, 0, 1}}, 1);
        alike("two accs", 3, new int[][] {{2, 0}, {2, 0}, {8, 0, 0, 1}}, 1);
        alike("input and acc", 3, new int[][] {{1, 0}, {2, 0}, {8, 0, 0, 1}}, 0);
        alike("number 0 and acc", 3, new int[][] {{0, 0}, {2, 0}, {8, 0, 0, 1}}, 0);
        alike("sums of alike ones", 3,
                new int[][] {{1, 0}, {0, 7}, {0, 7}, {3, 0, 1}, {3, 0, 2}, {8, 0, 3, 4}}, 1);
        alike("sums the other way round", 3,
                new int[][] {{1, 0}, {0, 7}, {3, 0, 1}, {3, 1, 0}, {8, 0, 2, 3}}, 0);
        alike("sum and difference", 3,
                new int[][] {{1, 0}, {0, 0}, {3, 0, 1}, {4, 0, 1}, {8, 0, 2, 3}}, 0);
        alike("sums that differ in a", 3,
                new int[][] {{1, 0}, {0, 7}, {3, 1, 0}, {3, 0, 0}, {8, 0, 2, 3}}, 0);
        alike("choices that differ in c", 3,
                new int[][] {{1, 0}, {0, 7}, {8, 0, 0, 0}, {8, 0, 0, 1}, {8, 0, 2, 3}}, 0);
        alike("choices that are alike", 3,
                new int[][] {{1, 0}, {0, 7}, {0, 7}, {8, 0, 0, 1}, {8, 0, 0, 2}, {8, 0, 3, 4}}, 1);
        alike("loops that are alike", 3,
                new int[][] {{1, 0}, {0, 7}, {0, 7}, {9, 0, 1}, {9, 0, 2}, {8, 0, 3, 4}}, 1);
        alike("only the question is alike", 3,
                new int[][] {{1, 0}, {1, 0}, {0, 7}, {8, 0, 1, 2}}, 0);
    }

    private static void alikeFirstAlone() {
        alike("input + 0", 4, new int[][] {{1, 0}, {0, 0}, {3, 0, 1}}, 1);
        alike("input - 0", 4, new int[][] {{1, 0}, {0, 0}, {4, 0, 1}}, 1);
        alike("input * 1", 4, new int[][] {{1, 0}, {0, 1}, {5, 0, 1}}, 1);
        alike("1 * input", 4, new int[][] {{1, 0}, {0, 1}, {5, 1, 0}}, 0);
        alike("input * 0", 4, new int[][] {{1, 0}, {0, 0}, {5, 0, 1}}, 0);
        alike("input + 1", 4, new int[][] {{1, 0}, {0, 1}, {3, 0, 1}}, 0);
        alike("0 + input", 4, new int[][] {{1, 0}, {0, 0}, {3, 1, 0}}, 0);
        alike("input - 1", 4, new int[][] {{1, 0}, {0, 1}, {4, 0, 1}}, 0);
        alike("input - acc", 4, new int[][] {{1, 0}, {2, 0}, {4, 0, 1}}, 0);
    }

    private static void othersAreNeverAlike() {
        alike("a number", 0, new int[][] {{0, 0}}, 0);
        alike("3 = 4", 5, new int[][] {{0, 3}, {0, 4}, {7, 0, 1}}, 0);
    }

    /** Two towers with 2 to the 29 ways down each: a walk down both would not come to an end. */
    private static void alikeOfDeepTrees() {
        MutantRows y = new MutantRows();
        y.node(1, 0, 0, 0);
        y.node(0, 5, 0, 0);
        y.node(0, 5, 0, 0);
        for (int i = 3; i < 61; i++) {
            y.node(8, 0, i - 2, i - 2);
        }
        y.node(8, 0, 59, 60);
        y.test(61, 0, 5);
        DUE.is("the way down is short", y.about(0, 0), 1);
        y.make(3);
        int top = 0;
        for (int i = 0; y.mutant(i, 1) != -1; i++) {
            top = y.mutant(i, 1) == 61 ? i : top;
        }
        DUE.is("the top is there", y.mutant(top, 1), 61);
        DUE.is("towers are alike", y.mutant(top, 4), 1);
        y.change(1, 6);
        DUE.is("towers aren't alike any more", y.mutant(top, 4), 0);
        y.change(2, 6);
        DUE.is("towers are alike again", y.mutant(top, 4), 1);
    }
}
