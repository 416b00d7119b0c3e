/** Promises 7, 8 and 9: run, order and distance, with what each KIND changes. */
public final class RunsTest {
    private static final Due DUE = new Due("RunsTest");
    private static final long BIG = Built.BIG;
    private static final long LOW = Built.LOW;

    public static void main(String[] args) {
        oneMore();
        lessOrSame();
        signsTurned();
        branchesSwapped();
        firstAlone();
        firstAloneSparesSteps();
        equalTurned();
        passAndCover();
        byDistance();
        thenByNumbers();
        whereverItIs();
        changedForThisRunOnly();
        firstThatIsCut();
        firstThatIsNotWanted();
        survives();
        survivesWithoutTests();
        keptTillRunAgain();
        lowestAndHighestBound();
        runNoSuchMutant();
        runOtherBounds();
        orderNow();
        orderOfAll();
        orderNone();
        distances();
        distanceNoSuchTest();
        distanceNoSuchNode();
        distanceNotOfIt();
        DUE.end();
    }

    /** Looks at the outcome of a KIND's MUTANT at a NODE of NUMBERS, for a TEST that passes. */
    private static void outcome(String what, int kind, int nodeKind, long[] parts, long wanted, int want) {
        MutantRows x = Built.ofThree(nodeKind, parts[0], parts[1], parts.length > 2 ? parts[2] : 0);
        x.test(3, 0, wanted);
        DUE.is(what + " passes", x.about(0, 0), 1);
        x.make(kind);
        // Of NUMBERS, both have a MUTANT: b's is looked at.
        int last = kind == 0 ? 1 : 0;
        DUE.is(what + ", changed", x.run(last, 100), want);
        DUE.is(what + ", kept", x.mutant(last, 2), want);
    }

    private static long[] of(long... numbers) {
        return numbers;
    }

    private static void oneMore() {
        DUE.by("Terms", "KIND 0: a NUMBER is 1 more.");
        outcome("5 + 6", 0, 3, of(5, 6), 11, 1);
        outcome("4 < 6", 0, 6, of(4, 6), 1, 0);
        outcome("4 < 4", 0, 6, of(4, 4), 0, 1);
        outcome("4 < 3", 0, 6, of(4, 3), 0, 0);
        outcome("4 = 3", 0, 7, of(4, 3), 0, 1);
        outcome("lowest = highest", 0, 7, of(LOW, BIG), 0, 1);
        outcome("0 < highest", 0, 6, of(0, BIG), 1, 1);
        outcome("0 = -1", 0, 7, of(0, -1), 0, 1);
    }

    private static void lessOrSame() {
        DUE.by("Terms", "1: LESS is 1 also if they are the same.");
        outcome("3 < 3", 1, 6, of(3, 3), 0, 1);
        outcome("2 < 3", 1, 6, of(2, 3), 1, 0);
        outcome("4 < 3", 1, 6, of(4, 3), 0, 0);
        outcome("lowest < lowest", 1, 6, of(LOW, LOW), 0, 1);
        outcome("highest < lowest", 1, 6, of(BIG, LOW), 0, 0);
        outcome("2^32 < 0", 1, 6, of(1L << 32, 0), 0, 0);
    }

    private static void signsTurned() {
        DUE.by("Terms", "2: ADD is SUB, SUB is ADD.");
        outcome("4 + 3", 2, 3, of(4, 3), 7, 1);
        outcome("4 + 0", 2, 3, of(4, 0), 4, 0);
        outcome("4 - 3", 2, 4, of(4, 3), 1, 1);
        outcome("4 - 0", 2, 4, of(4, 0), 4, 0);
        outcome("4 + lowest", 2, 3, of(4, LOW), LOW + 4, 0);
        outcome("4 - lowest", 2, 4, of(4, LOW), LOW + 4, 0);
        outcome("4 + highest", 2, 3, of(4, BIG), LOW + 3, 1);
        outcome("4 + 2^31", 2, 3, of(4, 1L << 31), (1L << 31) + 4, 1);
    }

    private static void branchesSwapped() {
        DUE.by("Terms", "3: CHOOSE takes c if a isn't 0, else b.");
        outcome("1 ? 5 : 6", 3, 8, of(1, 5, 6), 5, 1);
        outcome("0 ? 5 : 6", 3, 8, of(0, 5, 6), 6, 1);
        outcome("-1 ? 5 : 6", 3, 8, of(-1, 5, 6), 5, 1);
        outcome("1 ? 5 : 5", 3, 8, of(1, 5, 5), 5, 0);
        outcome("0 ? 5 : 5", 3, 8, of(0, 5, 5), 5, 0);
    }

    private static void firstAlone() {
        DUE.by("Terms", "4: of ADD, SUB, MUL a alone is worked out, and is it.");
        outcome("4 + 3", 4, 3, of(4, 3), 7, 1);
        outcome("4 + 0", 4, 3, of(4, 0), 4, 0);
        outcome("4 - 1", 4, 4, of(4, 1), 3, 1);
        outcome("4 - 0", 4, 4, of(4, 0), 4, 0);
        outcome("4 * 3", 4, 5, of(4, 3), 12, 1);
        outcome("4 * 1", 4, 5, of(4, 1), 4, 0);
        outcome("0 * 3", 4, 5, of(0, 3), 0, 0);
        outcome("1 * 0", 4, 5, of(1, 0), 0, 1);
    }

    private static void firstAloneSparesSteps() {
        DUE.by("Terms", "a alone is worked out");
        for (int kind = 3; kind < 6; kind++) {
            MutantRows x = Built.ofThree(kind, 0, 0, 0);
            x.test(3, 0, 0);
            x.make(4);
            DUE.is("2 STEPS of 2", x.run(0, 2), 0);
            DUE.is("2 STEPS of 1", x.run(0, 1), 2);
        }
    }

    private static void equalTurned() {
        DUE.by("Terms", "5: EQUAL is 1 if they differ, else 0.");
        outcome("3 = 3", 5, 7, of(3, 3), 1, 1);
        outcome("3 = 4", 5, 7, of(3, 4), 0, 1);
        outcome("0 = 2^32", 5, 7, of(0, 1L << 32), 0, 1);
        MutantRows x = Built.ofThree(7, 3, 3, 0);
        x.node(7, 3, 3, 0);
        x.test(4, 0, 1);
        x.make(5);
        DUE.is("(3 = 3) is 0 now in both parts", x.run(0, 100), 0);
    }

    private static void passAndCover() {
        DUE.by("Terms", "RUNNING one with a BOUND: the TESTS that PASS and COVER its NODE");
        MutantRows x = new MutantRows();
        x.node(1, 0, 0, 0);
        x.node(0, 10, 0, 0);
        x.node(0, 20, 0, 0);
        x.node(8, 0, 1, 2);
        x.test(3, 1, 11);
        x.test(3, 0, 20);
        x.test(3, 1, 10);
        x.make(0);
        DUE.is("the first TEST fails, the second one doesn't cover it", x.run(0, 100), 1);
        DUE.is("so the third one", x.mutant(0, 3), 2);
        DUE.is("the other branch's", x.run(1, 100), 1);
        DUE.is("by the second TEST", x.mutant(1, 3), 1);
        DUE.is("cut", x.run(0, 2), 2);
        DUE.is("by the third one too", x.mutant(0, 3), 2);
        DUE.is("the first by which it is RUN", x.order(0, 0), 2);
        DUE.is("the only one", x.order(0, 1), -1);
    }

    private static void byDistance() {
        DUE.by("Terms", "by DISTANCE (how few times one goes from a NODE to one that it is of");
        MutantRows x = Built.tower(0, 1, 5);
        int[] roots = {4, 3, 1, 2, 0};
        for (int root : roots) {
            x.test(root, 0, root + 1);
        }
        x.make(2);
        DUE.is("the ADD that is a ROOT", x.run(0, 50), 1);
        DUE.is("by the nearest", x.mutant(0, 3), 2);
        DUE.is("the next one", x.run(1, 50), 1);
        DUE.is("by its own", x.mutant(1, 3), 3);
        x.make(0);
        DUE.is("the NUMBER", x.run(4, 50), 1);
        DUE.is("by that of itself", x.mutant(4, 3), 4);
        for (int i = 0; i < 4; i++) {
            DUE.is("all the ADDs are as near", x.distance(i, 0), 1);
            DUE.is("so by numbers", x.order(4, i + 1), i);
        }
    }

    private static void thenByNumbers() {
        DUE.by("Terms", "then by numbers");
        MutantRows x = new MutantRows();
        x.node(0, 1, 0, 0);
        x.node(1, 0, 0, 0);
        x.node(3, 0, 1, 0);
        x.node(3, 2, 1, 0);
        x.node(3, 3, 1, 0);
        int[] roots = {4, 3, 0, 4, 2, 3, 0};
        for (int root : roots) {
            x.test(root, 0, 1);
        }
        x.make(0);
        int[] due = {2, 6, 4, 1, 5, 0, 3};
        for (int i = 0; i < due.length; i++) {
            DUE.is("order(0, " + i + ")", x.order(0, i), due[i]);
        }
        DUE.is("killed", x.run(0, 50), 1);
        DUE.is("by the first of the nearest", x.mutant(0, 3), 2);
    }

    private static void whereverItIs() {
        DUE.by("Terms", "each works out its ROOT with the NODE so changed (wherever it is)");
        MutantRows x = new MutantRows();
        x.node(1, 0, 0, 0);
        x.node(0, 5, 0, 0);
        x.node(3, 0, 1, 0);
        x.node(4, 2, 2, 0);
        x.test(3, 7, 0);
        x.make(0);
        x.make(2);
        DUE.is("a NUMBER below both parts", x.run(0, 100), 0);
        DUE.is("an ADD that is both parts", x.run(1, 100), 0);
        DUE.is("the SUB above them", x.run(2, 100), 1);
        MutantRows y = Built.counting();
        y.test(4, 4, 4);
        y.make(0);
        DUE.is("in each turn of a LOOP", y.run(0, 10), 0);
        DUE.is("two turns by 2 take 1 + 3 + 6 STEPS", y.run(0, 9), 2);
    }

    private static void changedForThisRunOnly() {
        DUE.by("Terms", "RUNNING one with a BOUND");
        MutantRows x = Built.branching(1);
        x.test(4, 5, 10);
        x.make(3);
        x.make(0);
        DUE.is("swapped", x.run(0, 100), 1);
        DUE.is("passes still", x.about(0, 0), 1);
        DUE.is("STEPS are what they were", x.about(0, 1), 5);
        DUE.is("what it covers too", x.about(0, 2), 4);
        x.test(4, 5, 10);
        DUE.is("a new TEST is tried without the change", x.about(1, 0), 1);
        DUE.is("what only a MUTANT came by isn't covered", x.make(2), 1);
        DUE.is("the ADD alone", x.mutant(2, 1), 2);
        DUE.is("the next RUN is without the change", x.run(1, 100), 0);
        x.run(0, 1);
        DUE.is("nor behind one that was cut", x.run(1, 100), 0);
    }

    private static void firstThatIsCut() {
        DUE.by("Terms", "the first that is CUT (2)");
        MutantRows x = Built.counting();
        x.test(4, 2, 2);
        x.test(4, 4, 4);
        x.test(4, 3, 3);
        x.test(4, 6, 6);
        x.make(0);
        // By twos: to 2 in 6 STEPS, to 4 in 10, to 3 in 10.
        DUE.is("cut", x.run(0, 9), 2);
        DUE.is("its outcome", x.mutant(0, 2), 2);
        DUE.is("by the first that is cut", x.mutant(0, 3), 1);
        DUE.is("cut at once", x.run(0, 5), 2);
        DUE.is("by the first one", x.mutant(0, 3), 0);
        MutantRows y = Built.counting();
        y.test(4, 1, 1);
        y.make(4);
        DUE.is("a LOOP that stands still", y.run(0, 5000), 2);
    }

    private static void firstThatIsNotWanted() {
        DUE.by("Terms", "or isn't WANTED (1: KILLED) ends it, and is told");
        MutantRows x = Built.counting();
        x.test(4, 2, 2);
        x.test(4, 4, 4);
        x.test(4, 3, 3);
        x.test(4, 5, 5);
        x.make(0);
        DUE.is("killed", x.run(0, 100), 1);
        DUE.is("its outcome", x.mutant(0, 2), 1);
        DUE.is("by the first that isn't wanted", x.mutant(0, 3), 2);
        DUE.is("before a later one would be cut", x.run(0, 10), 1);
        DUE.is("by the same", x.mutant(0, 3), 2);
    }

    private static void survives() {
        DUE.by("Terms", "if there is none such, it SURVIVES (0)");
        MutantRows x = Built.counting();
        x.test(4, 2, 2);
        x.test(4, 4, 4);
        x.make(0);
        DUE.is("by 2 to 2 and to 4", x.run(0, 100), 0);
        DUE.is("its outcome", x.mutant(0, 2), 0);
        DUE.is("no TEST is told", x.mutant(0, 3), -1);
    }

    private static void survivesWithoutTests() {
        DUE.by("Terms", "if there is none such, it SURVIVES (0)");
        MutantRows x = Built.numbers(2);
        x.change(0, 9);
        DUE.is("its only TEST fails", x.order(0, 0), -1);
        DUE.is("none to run it by", x.run(0, 10), 0);
        DUE.is("its outcome", x.mutant(0, 2), 0);
        DUE.is("no TEST is told", x.mutant(0, 3), -1);
        DUE.is("known", x.score(-1, 1), 1);
    }

    private static void keptTillRunAgain() {
        DUE.by("Terms", "The outcome is kept till it is RUN again");
        MutantRows x = Built.counting();
        x.test(4, 2, 2);
        x.make(0);
        x.make(2);
        DUE.is("survives", x.run(0, 100), 0);
        x.test(4, 5, 5);
        DUE.is("kept over a new TEST that would kill it", x.mutant(0, 2), 0);
        x.node(0, 1, 0, 0);
        x.make(4);
        x.sample(1, 2);
        DUE.is("another one's RUN", x.run(1, 100), 2);
        DUE.is("kept over these", x.mutant(0, 2), 0);
        DUE.is("RUN again", x.run(0, 100), 1);
        DUE.is("its outcome", x.mutant(0, 2), 1);
        DUE.is("its TEST", x.mutant(0, 3), 1);
        DUE.is("RUN with less", x.run(0, 5), 2);
        DUE.is("its outcome then", x.mutant(0, 2), 2);
        DUE.is("its TEST then", x.mutant(0, 3), 0);
        DUE.is("the other one's is kept", x.mutant(1, 2), 2);
    }

    private static void lowestAndHighestBound() {
        DUE.by("Promise 7", "RUNNING a MUTANT with a BOUND (1 .. 5000): the outcome");
        MutantRows x = Built.numbers(1);
        x.node(5, 0, 0, 0);
        x.test(1, 0, 0);
        x.make(4);
        DUE.is("1: a NUMBER takes that", x.run(0, 1), 1);
        DUE.is("1: a MUL doesn't", x.run(1, 1), 2);
        DUE.is("2", x.run(1, 2), 0);
        // Only the MUTANT takes the LOOP: 2 + 2 + 4 * 1249 STEPS, or 4 more.
        MutantRows y = Built.counting();
        y.node(0, 0, 0, 0);
        y.node(8, 5, 4, 0);
        y.test(6, 1249, 1249);
        y.test(6, 1250, 1250);
        y.make(3);
        DUE.is("the LOOP isn't worked out", y.about(0, 1), 3);
        DUE.is("5000 STEPS of 5000, then 5004", y.run(0, 5000), 2);
        DUE.is("the second one is cut", y.mutant(0, 3), 1);
        DUE.is("5000 STEPS of 4999", y.run(0, 4999), 2);
        DUE.is("the first one is cut", y.mutant(0, 3), 0);
        MutantRows z = Built.hundredThatSurvive();
        DUE.is("more than a TEST is tried with", z.run(0, 3001), 0);
    }

    private static void runNoSuchMutant() {
        DUE.by("Promise 7", "NONE if there is none such");
        MutantRows x = Built.numbers(2);
        for (int mutant : Built.outside(2)) {
            DUE.is("run(" + mutant + ", 10)", x.run(mutant, 10), -1);
        }
        DUE.is("nothing is known by that", x.score(-1, 1), 0);
        DUE.is("the last one", x.run(1, 10), 1);
    }

    private static void runOtherBounds() {
        DUE.by("Promise 7", "or it isn't so");
        MutantRows x = Built.numbers(2);
        x.run(0, 10);
        int[] wrong = {0, 5001, -1, 5002, Integer.MIN_VALUE, Integer.MAX_VALUE};
        for (int bound : wrong) {
            DUE.is("run(0, " + bound + ")", x.run(0, bound), -1);
            DUE.is("the outcome stays", x.mutant(0, 2), 1);
            DUE.is("the TEST stays", x.mutant(0, 3), 0);
            DUE.is("run(1, " + bound + ")", x.run(1, bound), -1);
            DUE.is("no outcome comes", x.mutant(1, 2), -1);
        }
    }

    private static void orderNow() {
        DUE.by("Promise 8", "The i-th TEST by which a MUTANT would be RUN now");
        MutantRows x = Built.branching(1);
        x.test(4, 5, 10);
        x.test(2, 5, 10);
        x.test(4, 6, 13);
        x.make(2);
        DUE.is("the nearest", x.order(0, 0), 1);
        DUE.is("then the other one", x.order(0, 1), 0);
        DUE.is("not the one that fails", x.order(0, 2), -1);
        x.test(2, 6, 12);
        DUE.is("a new TEST", x.order(0, 1), 3);
        DUE.is("goes before a farther one", x.order(0, 2), 0);
        x.change(0, 0);
        DUE.is("the nearest ones pass still", x.order(0, 0) * 10 + x.order(0, 1), 13);
        DUE.is("the other one doesn't come by any more", x.order(0, 2), -1);
        DUE.is("order makes no outcome", x.mutant(0, 2), -1);
    }

    private static void orderOfAll() {
        DUE.by("Promise 8", "The i-th TEST");
        MutantRows x = Built.tower(0, 1, 64);
        for (int i = 0; i < 24; i++) {
            x.test(40 + i, 0, 41 + i);
        }
        x.make(2);
        for (int i = 0; i < 24; i++) {
            DUE.is("order(0, " + i + ")", x.order(0, i), i);
            DUE.is("order(39, " + i + ")", x.order(39, i), i);
            DUE.is("order(62, " + i + ")", x.order(62, i), i == 0 ? 23 : -1);
        }
        DUE.is("no 25th", x.order(0, 24), -1);
    }

    private static void orderNone() {
        DUE.by("Promise 8", "NONE if there is none such");
        MutantRows x = Built.numbers(2);
        for (int mutant : Built.outside(2)) {
            DUE.is("order(" + mutant + ", 0)", x.order(mutant, 0), -1);
        }
        for (int i : Built.outside(1)) {
            DUE.is("order(1, " + i + ")", x.order(1, i), -1);
        }
        DUE.is("order(1, 0)", x.order(1, 0), 1);
    }

    private static void distances() {
        DUE.by("Promise 9", "DISTANCE of a NODE from a TEST's ROOT");
        MutantRows x = new MutantRows();
        x.node(1, 0, 0, 0);
        x.node(0, 1, 0, 0);
        x.node(3, 0, 1, 0);
        x.node(3, 2, 1, 0);
        x.node(8, 3, 3, 1);
        x.node(9, 4, 2, 0);
        int[][] due = {{2, 2, 1, 2, 1, 0}, {3, 1, 2, 1, 0}, {0}};
        int[] roots = {5, 4, 0};
        for (int t = 0; t < roots.length; t++) {
            x.test(roots[t], 0, 0);
            for (int n = 0; n < due[t].length; n++) {
                DUE.is("distance(" + t + ", " + n + ")", x.distance(t, n), due[t][n]);
            }
        }
        MutantRows y = new MutantRows();
        y.node(1, 0, 0, 0);
        for (int i = 1; i < 64; i++) {
            y.node(3, i - 1, i - 1, 0);
        }
        y.test(63, 0, 0);
        DUE.is("also of a TEST that is cut", y.about(0, 0), -2);
        for (int i = 0; i < 64; i++) {
            DUE.is("the longest way, " + i, y.distance(0, i), 63 - i);
        }
        MutantRows z = Built.branching(1);
        z.test(4, 5, 11);
        DUE.is("also of a TEST that fails, to what it doesn't cover", z.distance(0, 3), 1);
    }

    private static void distanceNoSuchTest() {
        DUE.by("Promise 9", "NONE if there are none such");
        MutantRows x = Built.numbers(2);
        for (int test : Built.outside(2)) {
            DUE.is("distance(" + test + ", 0)", x.distance(test, 0), -1);
        }
        DUE.is("the last TEST", x.distance(1, 1), 0);
    }

    private static void distanceNoSuchNode() {
        DUE.by("Promise 9", "NONE if there are none such");
        MutantRows x = Built.tower(1, 0, 2);
        x.test(1, 0, 0);
        for (int node : Built.outside(2)) {
            DUE.is("distance(0, " + node + ")", x.distance(0, node), -1);
        }
        DUE.is("the last NODE", x.distance(0, 1), 0);
        DUE.is("the first NODE", x.distance(0, 0), 1);
    }

    private static void distanceNotOfIt() {
        DUE.by("Promise 9", "or it isn't of it");
        MutantRows x = Built.counting();
        x.node(0, 5, 0, 0);
        x.node(3, 4, 4, 0);
        x.test(4, 0, 0);
        x.test(0, 0, 0);
        x.test(6, 0, 0);
        DUE.is("a later one", x.distance(0, 5), -1);
        DUE.is("what the ROOT is in", x.distance(0, 6), -1);
        DUE.is("an earlier one beside it", x.distance(2, 5), -1);
        for (int n = 1; n < 7; n++) {
            DUE.is("an INPUT is of none", x.distance(1, n), -1);
        }
    }
}
