/** Promises 1 and 2: a new object, node, and what the kinds of NODES are. */
public final class NodesTest {
    private static final Due DUE = new Due("NodesTest");
    private static final long BIG = Long.MAX_VALUE;
    private static final long LOW = Long.MIN_VALUE;

    public static void main(String[] args) {
        newObjectIsEmpty();
        objectsAreApart();
        nodesAreNumberedFromZero();
        unknownKindsAreRefused();
        partsMustBeEarlier();
        unusedPartsCountForNothing();
        sixtyFourAtMost();
        numbersOfAllKinds();
        numbersWrapAround();
        choiceWorksOutOneBranch();
        loops();
        accIsThatOfTheInnermostLoop();
        deepestTree();
        DUE.end();
    }

    private static void newObjectIsEmpty() {
        MutantRows x = new MutantRows();
        DUE.is("NONE", MutantRows.NONE, -1);
        DUE.is("test on a new object", x.test(0, 0, 0), -1);
        DUE.is("about on a new object", x.about(0, 0), -1);
        for (int kind = 0; kind < 6; kind++) {
            DUE.is("make on a new object", x.make(kind), 0);
        }
        DUE.is("mutant on a new object", x.mutant(0, 0), -1);
        DUE.is("run on a new object", x.run(0, 10), -1);
        DUE.is("order on a new object", x.order(0, 0), -1);
        DUE.is("distance on a new object", x.distance(0, 0), -1);
        DUE.is("change on a new object", x.change(0, 0), -1);
        DUE.is("sampled on a new object", x.sampled(0), -1);
        DUE.is("sample of 1 on a new object", x.sample(1, 1), false);
        DUE.is("sample of 0 on a new object", x.sample(1, 0), true);
        DUE.is("score on a new object", x.score(-1, 1), 0);
        DUE.is("miss on a new object", x.miss(0), -1);
    }

    private static void objectsAreApart() {
        MutantRows x = new MutantRows();
        x.node(0, 7, 0, 0);
        x.test(0, 0, 7);
        x.make(0);
        MutantRows y = new MutantRows();
        DUE.is("test on another object", y.test(0, 0, 7), -1);
        DUE.is("node on another object", y.node(0, 1, 0, 0), 0);
        DUE.is("mutant on another object", y.mutant(0, 0), -1);
    }

    private static void nodesAreNumberedFromZero() {
        MutantRows x = new MutantRows();
        DUE.is("node(0, -9)", x.node(0, -9, 0, 0), 0);
        DUE.is("node(1)", x.node(1, 0, 0, 0), 1);
        DUE.is("node(2)", x.node(2, 0, 0, 0), 2);
        for (int kind = 3; kind <= 9; kind++) {
            DUE.is("node(" + kind + ")", x.node(kind, 0, 1, 2), kind);
        }
    }

    private static void unknownKindsAreRefused() {
        MutantRows x = new MutantRows();
        x.node(1, 0, 0, 0);
        int[] kinds = {-1, 10, 11, Integer.MAX_VALUE, Integer.MIN_VALUE};
        for (int kind : kinds) {
            DUE.is("node(" + kind + ")", x.node(kind, 0, 0, 0), -1);
        }
        DUE.is("node behind refused ones", x.node(1, 0, 0, 0), 1);
    }

    private static void partsMustBeEarlier() {
        MutantRows x = new MutantRows();
        for (int kind = 3; kind <= 9; kind++) {
            DUE.is("no parts yet, kind " + kind, x.node(kind, 0, 0, 0), -1);
        }
        x.node(1, 0, 0, 0);
        x.node(1, 0, 0, 0);
        for (int kind = 3; kind <= 9; kind++) {
            DUE.is("a is itself, kind " + kind, x.node(kind, 2, 0, 0), -1);
            DUE.is("a below 0, kind " + kind, x.node(kind, -1, 0, 0), -1);
            DUE.is("a of more than 32 bits, kind " + kind, x.node(kind, 1L << 32, 0, 0), -1);
            DUE.is("a lowest, kind " + kind, x.node(kind, LOW, 0, 0), -1);
            DUE.is("a highest, kind " + kind, x.node(kind, BIG, 0, 0), -1);
            DUE.is("b is itself, kind " + kind, x.node(kind, 0, 2, 0), -1);
            DUE.is("b below 0, kind " + kind, x.node(kind, 0, -1, 0), -1);
            DUE.is("b highest, kind " + kind, x.node(kind, 0, Integer.MAX_VALUE, 0), -1);
        }
        DUE.is("c is itself", x.node(8, 0, 1, 2), -1);
        DUE.is("c below 0", x.node(8, 0, 1, -1), -1);
        DUE.is("c lowest", x.node(8, 0, 1, Integer.MIN_VALUE), -1);
        DUE.is("a, b and c are the last one", x.node(8, 1, 1, 1), 2);
    }

    private static void unusedPartsCountForNothing() {
        MutantRows x = new MutantRows();
        DUE.is("NUMBER", x.node(0, LOW, -5, 99), 0);
        DUE.is("INPUT", x.node(1, BIG, -5, 99), 1);
        DUE.is("ACC", x.node(2, LOW, -5, 99), 2);
        for (int kind = 3; kind <= 7; kind++) {
            DUE.is("c of kind " + kind, x.node(kind, 0, 0, -7), kind);
        }
        DUE.is("c of LOOP", x.node(9, 0, 0, 1000), 8);
    }

    private static void sixtyFourAtMost() {
        MutantRows x = new MutantRows();
        for (int i = 0; i < 64; i++) {
            DUE.is("node " + i, x.node(0, i, 0, 0), i);
        }
        DUE.is("the 65th node", x.node(0, 1, 0, 0), -1);
        DUE.is("the 65th node of others", x.node(3, 0, 0, 0), -1);
        DUE.is("a test of the last node", x.test(63, 0, 63), 0);
        DUE.is("the last node's number", x.about(0, 0), 1);
        DUE.is("a test of the 65th node", x.test(64, 0, 63), -1);
    }

    /** A fresh tree of one NODE of a kind over NUMBERS a, b and c: whether it is `want`. */
    private static void worksOutAs(int kind, long a, long b, long c, long want) {
        MutantRows x = new MutantRows();
        x.node(0, a, 0, 0);
        x.node(0, b, 0, 0);
        x.node(0, c, 0, 0);
        int root = x.node(kind, 0, 1, 2);
        x.test(root, 0, want);
        DUE.is("kind " + kind + " of " + a + ", " + b + ", " + c + " is " + want, x.about(0, 0), 1);
        x.test(root, 0, want + 1);
        DUE.is("kind " + kind + " isn't another", x.about(1, 0), 0);
    }

    private static void numbersOfAllKinds() {
        worksOutAs(3, 5, 8, 0, 13);
        worksOutAs(4, 5, 8, 0, -3);
        worksOutAs(5, 5, -8, 0, -40);
        worksOutAs(6, 5, 8, 0, 1);
        worksOutAs(6, 8, 8, 0, 0);
        worksOutAs(6, 9, 8, 0, 0);
        worksOutAs(6, LOW, BIG, 0, 1);
        worksOutAs(7, 8, 8, 0, 1);
        worksOutAs(7, 8, 9, 0, 0);
        worksOutAs(7, 0, 1L << 32, 0, 0);
        worksOutAs(8, 1, 20, 30, 20);
        worksOutAs(8, -4, 20, 30, 20);
        worksOutAs(8, 1L << 40, 20, 30, 20);
        worksOutAs(8, 0, 20, 30, 30);
        MutantRows x = new MutantRows();
        x.node(1, 0, 0, 0);
        x.node(2, 0, 0, 0);
        x.test(0, -77, -77);
        x.test(1, 5, 0);
        DUE.is("INPUT is the TEST's", x.about(0, 0), 1);
        DUE.is("ACC outside of all is 0", x.about(1, 0), 1);
    }

    private static void numbersWrapAround() {
        worksOutAs(3, BIG, 1, 0, LOW);
        worksOutAs(4, LOW, 1, 0, BIG);
        worksOutAs(5, BIG, 2, 0, -2);
        worksOutAs(5, LOW, -1, 0, LOW);
    }

    private static void choiceWorksOutOneBranch() {
        MutantRows x = new MutantRows();
        x.node(1, 0, 0, 0);
        x.node(0, 4, 0, 0);
        x.node(0, 5, 0, 0);
        x.node(8, 0, 1, 2);
        x.test(3, 1, 4);
        DUE.is("steps of CHOOSE", x.about(0, 1), 3);
        DUE.is("covered of CHOOSE", x.about(0, 2), 3);
        DUE.is("CHOOSE passes", x.about(0, 0), 1);
    }

    private static void loops() {
        MutantRows x = new MutantRows();
        x.node(1, 0, 0, 0);
        x.node(2, 0, 0, 0);
        x.node(0, 3, 0, 0);
        x.node(3, 1, 2, 0);
        x.node(9, 0, 3, 0);
        x.test(4, 7, 9);
        DUE.is("0, 3, 6, 9 until 7", x.about(0, 0), 1);
        DUE.is("its steps: itself, four ends, three turns", x.about(0, 1), 1 + 4 + 3 * 3);
        x.test(4, 0, 0);
        DUE.is("no turn at all", x.about(1, 0), 1);
        DUE.is("itself and the end", x.about(1, 1), 2);
        x.test(4, -5, 0);
        DUE.is("no turn below 0", x.about(2, 0), 1);
        x.test(4, 9, 9);
        DUE.is("9 isn't below 9", x.about(3, 0), 1);
        x.node(6, 1, 0, 0);
        x.node(9, 5, 3, 0);
        x.test(6, 2, 3);
        DUE.is("the end sees this ACC: 0 < (0 < 2), then 3 < (3 < 2) fails", x.about(4, 0), 1);
    }

    private static void accIsThatOfTheInnermostLoop() {
        MutantRows x = new MutantRows();
        x.node(2, 0, 0, 0);
        x.node(0, 2, 0, 0);
        x.node(3, 0, 1, 0);
        x.node(0, 5, 0, 0);
        int inner = x.node(9, 3, 2, 0);
        int body = x.node(3, inner, 0, 0);
        x.node(0, 15, 0, 0);
        int outer = x.node(9, 6, body, 0);
        x.test(outer, 0, 18);
        DUE.is("inner loops make 6 each, the outer ACC is there again behind them", x.about(0, 0), 1);
        int behind = x.node(3, outer, 0, 0);
        x.test(behind, 0, 18);
        DUE.is("ACC is 0 behind all loops", x.about(1, 0), 1);
        int sharedEnd = x.node(9, inner, 2, 0);
        x.test(sharedEnd, 0, 6);
        DUE.is("a loop as the end of a loop", x.about(2, 0), 1);
    }

    private static void deepestTree() {
        MutantRows x = new MutantRows();
        x.node(0, 0, 0, 0);
        for (int i = 1; i < 64; i++) {
            int kind = new int[] {3, 8, 9}[i % 3];
            x.node(kind, kind == 8 ? 0 : i - 1, 0, i - 1);
        }
        x.test(63, 0, 0);
        DUE.is("64 levels", x.about(0, 0), 1);
        DUE.is("each of 21 ADDs and CHOOSES takes two steps, each LOOP one", x.about(0, 1), 42 + 42 + 21 + 1);
        MutantRows y = new MutantRows();
        y.node(0, 1, 0, 0);
        for (int i = 1; i < 64; i++) {
            y.node(3, i - 1, i - 1, 0);
        }
        y.test(11, 0, 1L << 11);
        y.test(10, 0, 1L << 10);
        y.test(63, 0, 0);
        DUE.is("4095 steps are too many", y.about(0, 0), -2);
        DUE.is("2047 steps aren't", y.about(1, 0), 1);
        DUE.is("the deepest is cut", y.about(2, 0), -2);
        DUE.is("it came down to the first", y.about(2, 2), 64);
    }
}
