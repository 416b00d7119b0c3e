/** Promise 10: change, and over which changes outcomes are kept. */
public final class ChangeTest {
    private static final Due DUE = new Due("ChangeTest");

    public static void main(String[] args) {
        coveredByItsTest();
        coveredByAnotherTest();
        coveredByNone();
        coveredBehindTheChange();
        coveredBeforeTheChange();
        coveredLongBefore();
        coveredByTestsThatFail();
        coveredByTestsThatAreCut();
        coveredByTheLastTest();
        coveredBySeveralTests();
        eachOutcomeIsForgotten();
        becomesAnother();
        becomesAnotherAtTheEnds();
        theOneThatItIs();
        howManyPass();
        noSuchNode();
        noNumber();
        DUE.end();
    }

    /** Looks at whether the outcome and the TEST of a MUTANT are these. */
    private static void outcomeIs(String what, MutantRows x, int mutant, int outcome, int ender) {
        DUE.is(what, x.mutant(mutant, 2), outcome);
        DUE.is(what + ", the TEST", x.mutant(mutant, 3), ender);
    }

    /** INPUT, NUMBERS 1, 2, 3, and at 4 and 5 ADDs of INPUT and 1 or 2, each with a TEST and its MUTANT. */
    private static MutantRows twoSums() {
        MutantRows x = new MutantRows();
        x.node(1, 0, 0, 0);
        for (int i = 1; i < 4; i++) {
            x.node(0, i, 0, 0);
        }
        x.node(3, 0, 1, 0);
        x.node(3, 0, 2, 0);
        x.test(4, 0, 1);
        x.test(5, 0, 2);
        x.make(2);
        x.run(0, 50);
        x.run(1, 50);
        return x;
    }

    private static void coveredByItsTest() {
        DUE.by("Terms", "or a NUMBER changes that was COVERED");
        MutantRows x = twoSums();
        outcomeIs("known", x, 0, 1, 0);
        x.change(1, 9);
        outcomeIs("not known any more", x, 0, -1, -1);
        x.change(1, 1);
        outcomeIs("nor if it is what it was", x, 0, -1, -1);
        x.run(0, 50);
        outcomeIs("known again", x, 0, 1, 0);
    }

    private static void coveredByAnotherTest() {
        DUE.by("Terms", "by a TEST that COVERS the MUTANT's NODE");
        MutantRows x = twoSums();
        x.change(1, 9);
        outcomeIs("the other TEST's MUTANT stays", x, 1, 1, 1);
        x.test(4, 0, 9);
        x.run(0, 50);
        x.change(2, 9);
        outcomeIs("the other one now", x, 1, -1, -1);
        outcomeIs("the first one stays", x, 0, 1, 2);
    }

    private static void coveredByNone() {
        DUE.by("Terms", "a NUMBER changes that was COVERED");
        MutantRows x = twoSums();
        DUE.is("a NUMBER that no TEST covers", x.change(3, 9), 2);
        outcomeIs("the first one stays", x, 0, 1, 0);
        outcomeIs("the second one stays", x, 1, 1, 1);
        MutantRows y = Built.branching(1);
        y.node(0, 7, 0, 0);
        y.node(8, 0, 2, 5);
        y.test(6, 5, 10);
        y.make(2);
        y.run(0, 50);
        y.make(3);
        y.run(1, 50);
        outcomeIs("one that would come by the NUMBER", y, 1, 1, 0);
        y.change(5, 10);
        outcomeIs("stays, since only it came by there", y, 1, 1, 0);
    }

    private static void coveredBehindTheChange() {
        DUE.by("Terms", "just before or behind the change");
        MutantRows x = Built.branching(1);
        x.test(4, 5, 10);
        x.test(3, 5, 0);
        x.make(2);
        x.run(0, 50);
        x.run(1, 50);
        outcomeIs("the SUB by its own TEST", x, 1, 1, 1);
        x.change(0, 0);
        outcomeIs("the SUB is covered behind the change", x, 1, -1, -1);
    }

    private static void coveredBeforeTheChange() {
        DUE.by("Terms", "(before or behind, in the same way)");
        MutantRows x = Built.branching(0);
        x.test(4, 5, 0);
        x.make(2);
        x.run(0, 50);
        outcomeIs("the SUB", x, 0, 1, 0);
        x.change(0, 2);
        outcomeIs("the SUB was covered before the change", x, 0, -1, -1);
    }

    private static void coveredLongBefore() {
        DUE.by("Terms", "just before");
        MutantRows x = Built.branching(0);
        x.test(4, 5, 0);
        x.make(2);
        x.change(0, 2);
        x.run(0, 50);
        outcomeIs("no TEST covers the SUB any more", x, 0, 0, -1);
        x.change(0, 3);
        outcomeIs("neither before nor behind this change", x, 0, 0, -1);
        x.change(0, 0);
        outcomeIs("but behind this one", x, 0, -1, -1);
    }

    private static void coveredByTestsThatFail() {
        DUE.by("Terms", "by a TEST that COVERS the MUTANT's NODE");
        MutantRows x = Built.branching(1);
        x.test(2, 5, 10);
        x.make(2);
        x.run(0, 50);
        x.change(0, 2);
        outcomeIs("no TEST covers the NUMBER", x, 0, 1, 0);
        x.test(4, 5, -1);
        DUE.is("one that fails does", x.about(1, 0), 0);
        outcomeIs("a TEST alone doesn't touch it", x, 0, 1, 0);
        x.change(0, 3);
        outcomeIs("not known any more", x, 0, -1, -1);
    }

    private static void coveredByTestsThatAreCut() {
        DUE.by("Terms", "by a TEST that COVERS the MUTANT's NODE");
        MutantRows x = new MutantRows();
        x.node(1, 0, 0, 0);
        x.node(0, -1, 0, 0);
        x.node(3, 0, 0, 0);
        x.node(9, 2, 1, 0);
        x.test(2, 5, 10);
        x.make(2);
        x.run(0, 50);
        x.test(3, 5, 0);
        DUE.is("cut", x.about(1, 0), -2);
        outcomeIs("known", x, 0, 1, 0);
        x.change(1, -2);
        DUE.is("cut again", x.about(1, 0), -2);
        outcomeIs("not known any more", x, 0, -1, -1);
    }

    private static void coveredByTheLastTest() {
        DUE.by("Terms", "by a TEST that COVERS");
        MutantRows x = Built.numbers(22);
        int sum = x.node(3, 0, 1, 0);
        int other = x.node(3, 2, 21, 0);
        x.test(sum, 0, 1);
        x.test(other, 0, 23);
        x.make(2);
        for (int m = 0; m < 24; m++) {
            x.run(m, 10);
        }
        DUE.is("all are known", x.score(-1, 1), 24);
        x.change(21, 5);
        outcomeIs("at the NUMBER itself", x, 21, -1, -1);
        outcomeIs("at its sum, of the last TEST", x, 23, -1, -1);
        outcomeIs("beside it in the sum", x, 2, -1, -1);
        DUE.is("all others are known", x.score(-1, 1), 21);
    }

    private static void coveredBySeveralTests() {
        DUE.by("Terms", "by a TEST that COVERS the MUTANT's NODE");
        MutantRows x = new MutantRows();
        x.node(0, 1, 0, 0);
        x.node(1, 0, 0, 0);
        for (int i = 0; i < 3; i++) {
            x.node(3, 1, i == 1 ? 1 : 0, 0);
            x.test(2 + i, 5, i == 1 ? 10 : 6);
        }
        x.make(2);
        for (int i = 0; i < 3; i++) {
            x.run(i, 10);
            outcomeIs("killed", x, i, 1, i);
        }
        x.change(0, 2);
        outcomeIs("at the first TEST's NODE", x, 0, -1, -1);
        outcomeIs("at the NODE of one that doesn't cover the NUMBER", x, 1, 1, 1);
        outcomeIs("at the last TEST's NODE", x, 2, -1, -1);
    }

    private static void eachOutcomeIsForgotten() {
        DUE.by("Terms", "The outcome is kept till it is RUN again, or a NUMBER changes");
        MutantRows x = Built.counting();
        x.test(4, 2, 2);
        x.make(0);
        x.make(2);
        x.run(0, 100);
        x.run(1, 100);
        outcomeIs("survived", x, 0, 0, -1);
        outcomeIs("cut", x, 1, 2, 0);
        x.change(2, 2);
        outcomeIs("not known any more", x, 0, -1, -1);
        outcomeIs("nor the other one", x, 1, -1, -1);
        x.run(0, 100);
        outcomeIs("killed now", x, 0, 1, 0);
        x.change(2, 1);
        outcomeIs("not known again", x, 0, -1, -1);
    }

    private static void becomesAnother() {
        DUE.by("Promise 10", "A NUMBER becomes another one");
        MutantRows x = Built.counting();
        x.test(4, 4, 4);
        x.test(4, 5, 6);
        DUE.is("STEPS by 1", x.about(0, 1), 18);
        x.change(2, 2);
        DUE.is("STEPS by 2", x.about(0, 1), 10);
        DUE.is("to 4", x.about(0, 0), 1);
        DUE.is("to 6", x.about(1, 0), 1);
        x.change(2, 3);
        DUE.is("to 4 by 3", x.about(0, 0), 0);
        DUE.is("to 6 by 3", x.about(1, 0), 1);
        x.change(2, 0);
        DUE.is("cut by 0", x.about(0, 0), -2);
        DUE.is("STEPS if cut", x.about(0, 1), 3000);
        x.change(2, 1);
        DUE.is("by 1 again", x.about(0, 0), 1);
        DUE.is("STEPS again", x.about(0, 1), 18);
        x.test(4, 9, 9);
        DUE.is("a new TEST sees it too", x.about(2, 0), 1);
    }

    private static void becomesAnotherAtTheEnds() {
        DUE.by("Promise 10", "A NUMBER becomes another one");
        MutantRows x = new MutantRows();
        x.node(0, 0, 0, 0);
        long[] numbers = {1L << 32, 0, Built.LOW, Built.BIG, -1};
        for (int i = 0; i < numbers.length; i++) {
            x.test(0, 0, numbers[i]);
        }
        x.make(0);
        for (int i = 0; i < numbers.length; i++) {
            x.run(0, 10);
            DUE.is("one TEST passes for " + numbers[i], x.change(0, numbers[i]), 1);
            DUE.is("that one", x.about(i, 0), 1);
            outcomeIs("the outcome is gone", x, 0, -1, -1);
        }
    }

    private static void theOneThatItIs() {
        DUE.by("Promise 10", "(the one that it is: nothing changes, outcomes stay)");
        MutantRows x = twoSums();
        x.make(4);
        x.sample(5, 3);
        DUE.is("both pass", x.change(1, 1), 2);
        DUE.is("again", x.change(2, 2), 2);
        outcomeIs("the first one stays", x, 0, 1, 0);
        outcomeIs("the second one stays", x, 1, 1, 1);
        outcomeIs("what wasn't known isn't", x, 2, -1, -1);
        DUE.is("no sample is drawn", x.sampled(2) >= 0, true);
        MutantRows y = Built.numbers(1);
        y.change(0, Built.LOW);
        y.run(0, 10);
        DUE.is("the lowest one that it is", y.change(0, Built.LOW), 0);
        outcomeIs("it stays", y, 0, 0, -1);
    }

    private static void howManyPass() {
        DUE.by("Promise 10", "how many TESTS PASS then");
        MutantRows x = Built.tower(0, 1, 64);
        DUE.is("no TESTS", x.change(0, 2), 0);
        x.change(0, 1);
        for (int i = 0; i < 24; i++) {
            x.test(63 - i, 0, 64 - i);
        }
        DUE.is("all 24", x.change(0, 1), 24);
        DUE.is("none", x.change(0, 0), 0);
        DUE.is("none still", x.change(0, 0), 0);
        DUE.is("all 24 again", x.change(0, 1), 24);
        MutantRows y = Built.numbers(24);
        DUE.is("23 that don't come by and one that fails now", y.change(7, 9), 23);
        DUE.is("22", y.change(0, 9), 22);
        DUE.is("23 again", y.change(7, 7), 23);
    }

    private static void noSuchNode() {
        DUE.by("Promise 10", "NONE if there is no such NODE");
        MutantRows x = Built.numbers(2);
        x.run(0, 10);
        x.run(1, 10);
        for (int node : Built.outside(2)) {
            DUE.is("change(" + node + ", 5)", x.change(node, 5), -1);
        }
        DUE.is("the TESTS pass still", x.about(0, 0) + x.about(1, 0), 2);
        DUE.is("outcomes are known still", x.score(-1, 1), 2);
        DUE.is("the last one", x.change(1, 5), 1);
    }

    private static void noNumber() {
        DUE.by("Promise 10", "or it is no NUMBER");
        MutantRows x = Built.oneOfEach();
        for (int root = 0; root < 10; root++) {
            x.test(root, 0, root == 0 || root == 8 ? 6 : root == 7 ? 1 : 0);
        }
        for (int node = 1; node < 10; node++) {
            DUE.is("change(" + node + ", 0)", x.change(node, 0), -1);
            DUE.is("change(" + node + ", 5)", x.change(node, 5), -1);
        }
        for (int t = 0; t < 10; t++) {
            DUE.is("passes still: " + t, x.about(t, 0), 1);
        }
        DUE.is("the NUMBER", x.change(0, 7), 8);
    }
}
