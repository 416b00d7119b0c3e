/** Promise 10: change, and which outcomes are kept over it. */
public final class ChangeTest {
    private static final Due DUE = new Due("ChangeTest");

    public static void main(String[] args) {
        wrongArguments();
        testsAreTriedAnew();
        sameNumberChangesNothing();
        untouchedOutcomesStay();
        coveredOnlyBehindTheChange();
        coveredOnlyBeforeTheChange();
        testsThatFailCountToo();
        cutTestsCountToo();
        severalTestsForget();
        alikeFollowsTheNumbers();
        fullObject();
        DUE.end();
    }

    private static void wrongArguments() {
        MutantRows x = new MutantRows();
        x.node(0, 1, 0, 0);
        x.node(1, 0, 0, 0);
        x.node(2, 0, 0, 0);
        for (int kind = 3; kind <= 9; kind++) {
            x.node(kind, 0, 1, 2);
        }
        x.test(0, 0, 1);
        int[] wrong = {-1, 1, 2, 3, 4, 5, 6, 7, 8, 9, 10, 64, Integer.MAX_VALUE, Integer.MIN_VALUE};
        for (int w : wrong) {
            DUE.is("change(" + w + ", 5)", x.change(w, 5), -1);
        }
        DUE.is("a NUMBER", x.change(0, 1), 1);
        DUE.is("a NUMBER to another", x.change(0, 2), 0);
    }

    private static void testsAreTriedAnew() {
        MutantRows x = new MutantRows();
        x.node(1, 0, 0, 0);
        x.node(0, 1, 0, 0);
        x.node(2, 0, 0, 0);
        x.node(3, 2, 1, 0);
        x.node(9, 0, 3, 0);
        x.test(4, 4, 4);
        x.test(4, 5, 6);
        x.test(0, 9, 9);
        DUE.is("steps by 1", x.about(0, 1), 18);
        DUE.is("by 2 both pass", x.change(1, 2), 3);
        DUE.is("steps by 2", x.about(0, 1), 10);
        DUE.is("by 3 one of them", x.change(1, 3), 2);
        DUE.is("4 fails", x.about(0, 0), 0);
        DUE.is("5 passes", x.about(1, 0), 1);
        DUE.is("by 0 only the input", x.change(1, 0), 1);
        DUE.is("cut", x.about(0, 0), -2);
        DUE.is("steps cut", x.about(0, 1), 3000);
        DUE.is("by 1 again", x.change(1, 1), 2);
        DUE.is("passes again", x.about(0, 0), 1);
        DUE.is("as far as it goes", x.change(1, Long.MIN_VALUE), 1);
    }

    private static void sameNumberChangesNothing() {
        MutantRows x = new MutantRows();
        x.node(0, 7, 0, 0);
        x.test(0, 0, 7);
        x.make(0);
        x.run(0, 10);
        DUE.is("the same number", x.change(0, 7), 1);
        DUE.is("the outcome stays", x.mutant(0, 2), 1);
        DUE.is("the ender stays", x.mutant(0, 3), 0);
        DUE.is("another", x.change(0, 8), 0);
        DUE.is("no outcome", x.mutant(0, 2), -1);
        DUE.is("no ender", x.mutant(0, 3), -1);
        DUE.is("back", x.change(0, 7), 1);
        DUE.is("still no outcome", x.mutant(0, 2), -1);
    }

    private static void untouchedOutcomesStay() {
        MutantRows x = new MutantRows();
        x.node(1, 0, 0, 0);
        x.node(0, 1, 0, 0);
        x.node(0, 2, 0, 0);
        x.node(3, 0, 1, 0);
        x.node(3, 0, 2, 0);
        x.node(0, 3, 0, 0);
        x.test(3, 0, 1);
        x.test(4, 0, 2);
        x.make(2);
        x.run(0, 50);
        x.run(1, 50);
        x.change(5, 9);
        DUE.is("a NUMBER that none covers", x.mutant(0, 2), 1);
        x.change(1, 9);
        DUE.is("covered by its TEST", x.mutant(0, 2), -1);
        DUE.is("covered by another TEST", x.mutant(1, 2), 1);
        DUE.is("that one's ender", x.mutant(1, 3), 1);
        x.test(3, 0, 9);
        x.run(0, 50);
        x.change(2, 9);
        DUE.is("the other one now", x.mutant(1, 2), -1);
        DUE.is("the first one stays", x.mutant(0, 2), 1);
    }

    /** A NUMBER decides the branch that a TEST takes. */
    private static MutantRows branching(long number) {
        MutantRows x = new MutantRows();
        x.node(0, number, 0, 0);
        x.node(1, 0, 0, 0);
        x.node(3, 1, 1, 0);
        x.node(4, 1, 1, 0);
        x.node(8, 0, 2, 3);
        return x;
    }

    private static void coveredOnlyBehindTheChange() {
        MutantRows x = branching(1);
        x.test(4, 5, 10);
        x.test(3, 5, 0);
        x.make(2);
        DUE.is("node of 1", x.mutant(1, 1), 3);
        x.run(0, 50);
        x.run(1, 50);
        DUE.is("known", x.mutant(1, 2), 1);
        x.change(0, 0);
        DUE.is("the SUB is covered behind the change", x.mutant(1, 2), -1);
        DUE.is("the ADD was before it", x.mutant(0, 2), -1);
    }

    private static void coveredOnlyBeforeTheChange() {
        MutantRows x = branching(0);
        x.test(4, 5, 0);
        x.test(2, 5, 10);
        x.make(2);
        x.run(0, 50);
        x.run(1, 50);
        DUE.is("known ADD", x.mutant(0, 2), 1);
        DUE.is("known SUB", x.mutant(1, 2), 1);
        x.change(0, 2);
        DUE.is("the SUB was covered before", x.mutant(1, 2), -1);
        DUE.is("no ender", x.mutant(1, 3), -1);
        DUE.is("the ADD is covered behind", x.mutant(0, 2), -1);
        x.run(0, 50);
        x.run(1, 50);
        DUE.is("none runs the SUB: survived", x.mutant(1, 2), 0);
        x.change(0, 3);
        DUE.is("the SUB isn't covered, before or behind", x.mutant(1, 2), 0);
        DUE.is("the ADD is", x.mutant(0, 2), -1);
    }

    private static void testsThatFailCountToo() {
        MutantRows x = branching(1);
        x.test(2, 5, 10);
        x.make(2);
        x.run(0, 50);
        x.change(0, 2);
        DUE.is("no TEST covers the NUMBER", x.mutant(0, 2), 1);
        x.test(4, 5, -1);
        DUE.is("one that fails does", x.about(1, 0), 0);
        DUE.is("still known", x.mutant(0, 2), 1);
        x.change(0, 3);
        DUE.is("not known any more", x.mutant(0, 2), -1);
    }

    private static void cutTestsCountToo() {
        MutantRows x = new MutantRows();
        x.node(1, 0, 0, 0);
        x.node(0, -1, 0, 0);
        x.node(3, 0, 0, 0);
        x.node(9, 2, 1, 0);
        x.test(2, 5, 10);
        x.make(2);
        x.run(0, 50);
        x.test(3, 5, 0);
        DUE.is("cut", x.about(1, 0), -2);
        DUE.is("known", x.mutant(0, 2), 1);
        x.change(1, -2);
        DUE.is("forgotten by a TEST that is cut", x.mutant(0, 2), -1);
    }

    /** Each TEST that covers the NUMBER forgets the outcomes at its own NODES. */
    private static void severalTestsForget() {
        MutantRows x = new MutantRows();
        x.node(0, 1, 0, 0);
        x.node(1, 0, 0, 0);
        for (int i = 0; i < 3; i++) {
            x.node(3, 1, i == 1 ? 1 : 0, 0);
            x.test(2 + i, 5, i == 1 ? 10 : 6);
        }
        x.make(2);
        for (int i = 0; i < 3; i++) {
            DUE.is("killed", x.run(i, 10), 1);
        }
        x.change(0, 2);
        DUE.is("by the first TEST", x.mutant(0, 2), -1);
        DUE.is("by none", x.mutant(1, 2), 1);
        DUE.is("by the last TEST", x.mutant(2, 2), -1);
    }

    /** 64 NODES, 24 TESTS and 100 MUTANTS: a change goes through all of them and no further. */
    private static void fullObject() {
        MutantRows x = new MutantRows();
        x.node(0, 1, 0, 0);
        for (int i = 1; i < 64; i++) {
            x.node(3, i - 1, 0, 0);
        }
        for (int i = 0; i < 24; i++) {
            x.test(63 - i, 0, 64 - i);
        }
        DUE.is("signs", x.make(2), 63);
        DUE.is("firsts", x.make(4), 37);
        for (int i = 0; i < 100; i++) {
            DUE.is("run of " + i, x.run(i, 500), 1);
        }
        DUE.is("the last TEST is the nearest", x.mutant(0, 3), 23);
        DUE.is("24 in order", x.order(0, 23), 0);
        DUE.is("no 25th", x.order(0, 24), -1);
        DUE.is("all known", x.score(-1, 1), 100);
        DUE.is("none passes", x.change(0, 0), 0);
        DUE.is("none known", x.score(-1, 1), 0);
        DUE.is("an ADD of 0 is ALIKE", x.mutant(99, 4), 1);
        DUE.is("all pass again", x.change(0, 1), 24);
        DUE.is("no ADD of 1 is ALIKE", x.mutant(99, 4), 0);
    }

    private static void alikeFollowsTheNumbers() {
        MutantRows x = new MutantRows();
        x.node(1, 0, 0, 0);
        x.node(0, 0, 0, 0);
        x.node(3, 0, 1, 0);
        x.test(2, 5, 5);
        x.make(2);
        DUE.is("input + 0", x.mutant(0, 4), 1);
        x.change(1, 1);
        DUE.is("input + 1", x.mutant(0, 4), 0);
        x.change(1, 0);
        DUE.is("input + 0 again", x.mutant(0, 4), 1);
        MutantRows y = new MutantRows();
        y.node(0, 3, 0, 0);
        y.node(0, 3, 0, 0);
        y.node(6, 0, 1, 0);
        y.node(8, 2, 0, 1);
        y.test(2, 0, 0);
        y.test(3, 0, 3);
        y.make(1);
        y.make(3);
        DUE.is("3 < 3", y.mutant(0, 4), 0);
        DUE.is("3 or 3", y.mutant(1, 4), 1);
        y.change(0, 2);
        DUE.is("2 < 3", y.mutant(0, 4), 1);
        DUE.is("2 or 3", y.mutant(1, 4), 0);
        y.change(1, 2);
        DUE.is("2 < 2", y.mutant(0, 4), 0);
        DUE.is("2 or 2", y.mutant(1, 4), 1);
    }
}
