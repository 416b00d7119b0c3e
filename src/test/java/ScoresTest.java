/** Promises 13 and 14: score and miss. */
public final class ScoresTest {
    private static final Due DUE = new Due("ScoresTest");

    public static void main(String[] args) {
        ofAKind();
        ofAll();
        none();
        killedOrCut();
        anOutcome();
        missedOnes();
        scoresOfAHundred();
        noSuchKind();
        noSuchSide();
        missesByNumbers();
        missesThatAreNotAlike();
        missesOfAHundred();
        missNone();
        DUE.end();
    }

    /**
     * MUTANTS 0 to 2 of KIND 2 and 3 to 5 of KIND 4: killed, ALIKE and survived, cut with a BOUND of 100; 6 of
     * KIND 1: survived, not ALIKE.
     */
    private static MutantRows mixed() {
        MutantRows x = new MutantRows();
        x.node(1, 0, 0, 0);
        x.node(0, 0, 0, 0);
        x.node(3, 0, 0, 0);
        x.node(4, 2, 1, 0);
        x.node(6, 3, 0, 0);
        x.node(2, 0, 0, 0);
        x.node(3, 5, 0, 0);
        x.node(9, 0, 6, 0);
        x.test(3, 5, 10);
        x.test(4, 5, 0);
        x.test(7, 1, 1);
        x.make(2);
        x.make(4);
        x.make(1);
        return x;
    }

    private static MutantRows mixedAndRun() {
        MutantRows x = mixed();
        int[] outcomes = {1, 0, 2, 1, 0, 2, 0};
        for (int i = 0; i < 7; i++) {
            DUE.is("run of " + i, x.run(i, 100), outcomes[i]);
        }
        return x;
    }

    private static void scoresAre(MutantRows x, int side, int all, int... ofKinds) {
        DUE.is("score(-1, " + side + ")", x.score(-1, side), all);
        for (int kind = 0; kind < ofKinds.length; kind++) {
            DUE.is("score(" + kind + ", " + side + ")", x.score(kind, side), ofKinds[kind]);
        }
    }

    private static void ofAKind() {
        DUE.by("Promise 13", "Of a KIND's MUTANTS");
        MutantRows x = mixedAndRun();
        int[] known = {0, 1, 3, 0, 3, 0};
        for (int kind = 0; kind < 6; kind++) {
            DUE.is("score(" + kind + ", 1)", x.score(kind, 1), known[kind]);
        }
        DUE.is("a KIND without MUTANTS", x.score(5, 0), 0);
        DUE.is("none at all", new MutantRows().score(0, 2), 0);
    }

    private static void ofAll() {
        DUE.by("Promise 13", "(NONE: of all)");
        MutantRows x = mixedAndRun();
        DUE.is("side 0", x.score(MutantRows.NONE, 0), 4);
        DUE.is("side 1", x.score(MutantRows.NONE, 1), 7);
        DUE.is("side 2", x.score(MutantRows.NONE, 2), 1);
        DUE.is("none at all", new MutantRows().score(MutantRows.NONE, 1), 0);
    }

    private static void none() {
        DUE.by("Terms", "The constants: `NONE = -1`: None.");
        DUE.is("NONE", MutantRows.NONE, -1);
        DUE.is("of all by it", mixedAndRun().score(MutantRows.NONE, 1), 7);
    }

    private static void killedOrCut() {
        DUE.by("Promise 13", "how many have the outcome 1 or 2 (side 0)");
        MutantRows x = mixed();
        scoresAre(x, 0, 0, 0, 0, 0, 0, 0, 0);
        scoresAre(mixedAndRun(), 0, 4, 0, 0, 2, 0, 2, 0);
        x.run(1, 100);
        DUE.is("one survived", x.score(-1, 0), 0);
        x.run(0, 100);
        DUE.is("one is killed", x.score(-1, 0), 1);
        x.run(0, 1);
        DUE.is("the same one is cut", x.score(-1, 0), 1);
        x.run(2, 100);
        DUE.is("another one is cut", x.score(-1, 0), 2);
    }

    private static void anOutcome() {
        DUE.by("Promise 13", "an outcome (1)");
        MutantRows x = mixed();
        scoresAre(x, 1, 0, 0, 0, 0, 0, 0, 0);
        for (int i = 0; i < 7; i++) {
            x.run(i, 100);
            DUE.is("known by now", x.score(-1, 1), i + 1);
        }
        scoresAre(x, 1, 7, 0, 1, 3, 0, 3, 0);
        x.change(1, 1);
        scoresAre(x, 1, 2, 0, 0, 1, 0, 1, 0);
    }

    private static void missedOnes() {
        DUE.by("Promise 13", "the outcome 0 and aren't proved ALIKE (2)");
        scoresAre(mixed(), 2, 0, 0, 0, 0, 0, 0, 0);
        MutantRows x = mixedAndRun();
        scoresAre(x, 2, 1, 0, 1, 0, 0, 0, 0);
        DUE.is("an ALIKE one with the outcome 0", x.mutant(1, 2) * 10 + x.mutant(1, 4), 1);
        x.run(6, 1);
        DUE.is("the one that was missed is cut", x.score(-1, 2), 0);
    }

    private static void scoresOfAHundred() {
        DUE.by("Promise 13", "Of a KIND's MUTANTS (NONE: of all)");
        MutantRows x = Built.hundredThatSurvive();
        for (int i = 0; i < 100; i++) {
            x.run(i, i % 2 == 0 ? 500 : 1);
        }
        scoresAre(x, 0, 50, 0, 0, 31, 0, 19, 0);
        scoresAre(x, 1, 100, 0, 0, 62, 0, 38, 0);
        scoresAre(x, 2, 50, 0, 0, 31, 0, 19, 0);
    }

    private static void noSuchKind() {
        DUE.by("Promise 13", "NONE if no such KIND");
        MutantRows x = mixedAndRun();
        int[] wrong = {-2, 6, -3, 7, Integer.MIN_VALUE, Integer.MAX_VALUE};
        for (int kind : wrong) {
            for (int side = 0; side < 3; side++) {
                DUE.is("score(" + kind + ", " + side + ")", x.score(kind, side), -1);
            }
        }
    }

    private static void noSuchSide() {
        DUE.by("Promise 13", "or side");
        MutantRows x = mixedAndRun();
        for (int side : Built.outside(3)) {
            for (int kind = -2; kind < 7; kind++) {
                DUE.is("score(" + kind + ", " + side + ")", x.score(kind, side), -1);
            }
        }
    }

    /** NUMBERS 3 and 4 at 1 and 2, INPUT * each at 3 and 4: MUTANTS 0, 1 of KIND 0 and 2, 3 of KIND 4. */
    private static MutantRows products() {
        MutantRows x = new MutantRows();
        x.node(1, 0, 0, 0);
        x.node(0, 3, 0, 0);
        x.node(0, 4, 0, 0);
        x.node(5, 0, 1, 0);
        x.node(5, 0, 2, 0);
        x.test(3, 0, 0);
        x.test(4, 0, 0);
        x.make(0);
        x.make(4);
        for (int i = 3; i >= 0; i--) {
            DUE.is("survives", x.run(i, 10), 0);
        }
        return x;
    }

    private static void missesByNumbers() {
        DUE.by("Promise 14", "The i-th MUTANT with the outcome 0");
        MutantRows x = products();
        for (int i = 0; i < 4; i++) {
            DUE.is("miss(" + i + ")", x.miss(i), i);
        }
        x.run(1, 1);
        DUE.is("before one that is cut", x.miss(0), 0);
        DUE.is("behind it", x.miss(1), 2);
        x.change(1, 9);
        DUE.is("those at the first product aren't known", x.miss(0), 3);
        DUE.is("no other", x.miss(1), -1);
    }

    private static void missesThatAreNotAlike() {
        DUE.by("Promise 14", "that isn't proved ALIKE");
        MutantRows x = products();
        x.change(1, 1);
        DUE.is("INPUT * 1", x.run(2, 10), 0);
        DUE.is("is ALIKE", x.mutant(2, 4), 1);
        DUE.is("the first", x.miss(0), 1);
        DUE.is("the second", x.miss(1), 3);
        DUE.is("no third", x.miss(2), -1);
        DUE.is("side 2 counts the same", x.score(-1, 2), 2);
        MutantRows y = mixedAndRun();
        DUE.is("the only one", y.miss(0), 6);
        DUE.is("no second", y.miss(1), -1);
    }

    private static void missesOfAHundred() {
        DUE.by("Promise 14", "The i-th MUTANT");
        MutantRows x = Built.hundredThatSurvive();
        for (int i = 0; i < 100; i++) {
            x.run(i, 500);
        }
        for (int i = 0; i < 100; i++) {
            DUE.is("miss(" + i + ")", x.miss(i), i);
        }
        DUE.is("miss(100)", x.miss(100), -1);
    }

    private static void missNone() {
        DUE.by("Promise 14", "NONE if there is none such");
        MutantRows x = mixed();
        DUE.is("none is RUN yet", x.miss(0), -1);
        x.run(0, 100);
        x.run(1, 100);
        x.run(2, 100);
        DUE.is("killed, ALIKE and cut", x.miss(0), -1);
        MutantRows y = products();
        for (int i : Built.outside(4)) {
            DUE.is("miss(" + i + ")", y.miss(i), -1);
        }
    }
}
