/** Promises 5 and 6: make and mutant. What is proved ALIKE is in AlikeTest. */
public final class MutantsTest {
    private static final Due DUE = new Due("MutantsTest");

    public static void main(String[] args) {
        numberedFromZero();
        hundred();
        eachPairOnce();
        forEachNodeByNumbers();
        coveredByATestThatPasses();
        coveredOfAnyTest();
        notThereYet();
        fewerThanHundred();
        justHundred();
        howManyCame();
        noSuchKind();
        whatOfAMutant();
        outcomeNotKnown();
        enderNone();
        whetherAlike();
        noSuchMutant();
        anotherWhat();
        DUE.end();
    }

    private static MutantRows allCovered() {
        MutantRows x = Built.oneOfEach();
        for (int root = 3; root <= 9; root++) {
            x.test(root, 0, 0);
        }
        x.test(0, 0, 6);
        x.test(8, 0, 6);
        x.test(7, 0, 1);
        return x;
    }

    private static void numberedFromZero() {
        DUE.by("Terms", "numbered from 0, are a KIND and a NODE");
        MutantRows x = allCovered();
        x.make(5);
        x.make(2);
        int[][] due = {{5, 7}, {2, 3}, {2, 4}};
        for (int i = 0; i < due.length; i++) {
            DUE.is("kind of " + i, x.mutant(i, 0), due[i][0]);
            DUE.is("node of " + i, x.mutant(i, 1), due[i][1]);
        }
    }

    private static void hundred() {
        DUE.by("Terms", "MUTANTS, at most 100");
        MutantRows x = Built.hundredThatSurvive();
        for (int i = 0; i < 100; i++) {
            DUE.is("kind of " + i, x.mutant(i, 0), i < 62 ? 2 : 4);
            DUE.is("node of " + i, x.mutant(i, 1), i < 62 ? i + 1 : i - 61);
        }
        DUE.is("run of the last one", x.run(99, 500), 0);
        DUE.is("its outcome", x.mutant(99, 2), 0);
        DUE.is("its order", x.order(99, 0), 0);
        DUE.is("none behind it", x.mutant(100, 0), -1);
    }

    private static void eachPairOnce() {
        DUE.by("Terms", "(each such pair once)");
        MutantRows x = allCovered();
        int[] counts = {1, 1, 2, 1, 3, 1};
        for (int kind = 0; kind < 6; kind++) {
            DUE.is("make(" + kind + ")", x.make(kind), counts[kind]);
        }
        for (int kind = 0; kind < 6; kind++) {
            DUE.is("make(" + kind + ") again", x.make(kind), 0);
        }
        DUE.is("nine in all", x.mutant(8, 0), 5);
        DUE.is("no tenth", x.mutant(9, 0), -1);
    }

    private static void forEachNodeByNumbers() {
        DUE.by("Promise 5", "MUTANTS of a KIND, for each NODE (by numbers) for which there are such");
        MutantRows x = allCovered();
        int[][] due = {{0}, {6}, {3, 4}, {8}, {3, 4, 5}, {7}};
        int number = 0;
        for (int kind = 0; kind < due.length; kind++) {
            DUE.is("make(" + kind + ")", x.make(kind), due[kind].length);
            for (int node : due[kind]) {
                DUE.is("kind of " + number, x.mutant(number, 0), kind);
                DUE.is("node of " + number, x.mutant(number, 1), node);
                number++;
            }
        }
        DUE.is("no more", x.mutant(number, 0), -1);
    }

    private static void coveredByATestThatPasses() {
        DUE.by("Promise 5", "that is COVERED by a TEST that PASSES");
        MutantRows x = new MutantRows();
        x.node(1, 0, 0, 0);
        x.node(0, 10, 0, 0);
        x.node(0, 20, 0, 0);
        x.node(8, 0, 1, 2);
        DUE.is("no TESTS", x.make(0), 0);
        x.test(3, 1, 99);
        DUE.is("a TEST that fails", x.make(0), 0);
        x.test(3, 0, 20);
        DUE.is("a TEST that passes", x.make(0), 1);
        DUE.is("it covers c alone", x.mutant(0, 1), 2);
        x.test(1, 0, 11);
        DUE.is("b is covered by those that fail", x.make(0), 0);
        x.change(1, 11);
        DUE.is("one of them passes now", x.make(0), 1);
        DUE.is("so b too", x.mutant(1, 1), 1);
        MutantRows y = Built.endless();
        y.test(2, 0, 0);
        DUE.is("a TEST that is cut", y.make(0), 0);
    }

    private static void coveredOfAnyTest() {
        DUE.by("Promise 5", "COVERED by a TEST");
        MutantRows x = new MutantRows();
        for (int i = 0; i < 24; i++) {
            x.node(0, i, 0, 0);
        }
        for (int i = 0; i < 24; i++) {
            x.test(23 - i, 0, i < 23 ? 23 - i : 5);
        }
        DUE.is("by the first 23; the last one fails", x.make(0), 23);
        DUE.is("so that of NODE 0 isn't there", x.mutant(0, 1), 1);
        DUE.is("by numbers, not by TESTS", x.mutant(22, 1), 23);
        DUE.is("none is of NODES that no TEST is of", x.node(0, 0, 0, 0) + x.make(0), 24);
    }

    private static void notThereYet() {
        DUE.by("Promise 5", "and that aren't there yet");
        MutantRows x = Built.branching(1);
        x.test(4, 5, 10);
        DUE.is("the ADD's", x.make(2), 1);
        DUE.is("not again", x.make(2), 0);
        x.run(0, 100);
        DUE.is("not behind a RUN either", x.make(2), 0);
        x.test(3, 5, 0);
        DUE.is("the SUB's alone is new", x.make(2), 1);
        DUE.is("that is it", x.mutant(1, 1), 3);
        DUE.is("the same NODES with another KIND", x.make(4), 2);
        x.change(0, 2);
        DUE.is("none behind a change either", x.make(2), 0);
    }

    private static void fewerThanHundred() {
        DUE.by("Promise 5", "as long as there are fewer than 100");
        MutantRows x = Built.tower(1, 0, 64);
        x.test(63, 1, 64);
        DUE.is("63 of KIND 2", x.make(2), 63);
        DUE.is("37 of 63 of KIND 4", x.make(4), 37);
        DUE.is("the last one's KIND", x.mutant(99, 0), 4);
        DUE.is("the last one's NODE", x.mutant(99, 1), 37);
        DUE.is("no other", x.mutant(100, 0), -1);
        for (int kind = 0; kind < 6; kind++) {
            DUE.is("none more of KIND " + kind, x.make(kind), 0);
        }
        DUE.is("the last one is what it was", x.mutant(99, 1), 37);
        DUE.is("a sample of all", x.sample(3, 100), true);
        DUE.is("there are no more", x.sample(3, 101), false);
    }

    private static void justHundred() {
        DUE.by("Promise 5", "as long as there are fewer than 100");
        MutantRows x = Built.tower(0, 1, 51);
        x.test(50, 1, 51);
        DUE.is("50 of KIND 2", x.make(2), 50);
        DUE.is("the other 50 of KIND 4", x.make(4), 50);
        DUE.is("one too many of KIND 0", x.make(0), 0);
        MutantRows y = Built.tower(0, 1, 50);
        y.test(49, 1, 50);
        DUE.is("49 of KIND 2", y.make(2), 49);
        DUE.is("49 of KIND 4", y.make(4), 49);
        DUE.is("the 99th", y.make(0), 1);
        y.node(0, 1, 0, 0);
        y.node(0, 2, 0, 0);
        y.test(50, 0, 1);
        y.test(51, 0, 2);
        DUE.is("the 100th, not the 101st", y.make(0), 1);
        DUE.is("it is the first of the two", y.mutant(99, 1), 50);
        DUE.is("none more", y.make(0), 0);
    }

    private static void howManyCame() {
        DUE.by("Promise 5", "how many came");
        MutantRows x = Built.numbers(24);
        DUE.is("24 were there", x.mutant(23, 1), 23);
        DUE.is("none came", x.make(0), 0);
        x.change(0, 9);
        x.node(0, 5, 0, 0);
        x.node(0, 6, 0, 0);
        DUE.is("none that no TEST covers", x.make(0), 0);
        DUE.is("none of other KINDS", x.make(5), 0);
    }

    private static void noSuchKind() {
        DUE.by("Promise 5", "NONE if no such KIND");
        MutantRows x = new MutantRows();
        DUE.is("on a new object", x.make(6), -1);
        x = allCovered();
        for (int kind : Built.outside(6)) {
            DUE.is("make(" + kind + ")", x.make(kind), -1);
        }
        DUE.is("nothing came", x.mutant(0, 0), -1);
        x = Built.hundredThatSurvive();
        DUE.is("also if there are 100", x.make(-1) + x.make(6), -2);
    }

    private static void whatOfAMutant() {
        DUE.by("Promise 6", "0 the KIND, 1 the NODE, 2 the outcome");
        MutantRows x = Built.counting();
        x.test(1, 0, 0);
        x.test(4, 5, 5);
        x.make(4);
        x.make(0);
        x.run(0, 100);
        x.run(1, 100);
        int[][] due = {{4, 3, 2, 1, 0}, {0, 2, 1, 1, 0}};
        for (int i = 0; i < due.length; i++) {
            for (int what = 0; what < 5; what++) {
                DUE.is("mutant(" + i + ", " + what + ")", x.mutant(i, what), due[i][what]);
            }
        }
    }

    private static void outcomeNotKnown() {
        DUE.by("Promise 6", "(NONE: not known)");
        MutantRows x = Built.numbers(3);
        DUE.is("a new one", x.mutant(1, 2), -1);
        x.run(1, 10);
        DUE.is("RUN", x.mutant(1, 2), 1);
        DUE.is("the one before it", x.mutant(0, 2), -1);
        DUE.is("the one behind it", x.mutant(2, 2), -1);
        x.change(1, 7);
        DUE.is("behind a change", x.mutant(1, 2), -1);
    }

    private static void enderNone() {
        DUE.by("Promise 6", "3 the TEST that ended it (NONE)");
        MutantRows x = Built.numbers(2);
        DUE.is("not RUN yet", x.mutant(1, 3), -1);
        x.run(1, 10);
        DUE.is("killed", x.mutant(1, 3), 1);
        x.change(1, 7);
        DUE.is("behind a change", x.mutant(1, 3), -1);
        MutantRows y = Built.hundredThatSurvive();
        y.run(0, 500);
        DUE.is("survived", y.mutant(0, 3), -1);
        y.run(0, 5);
        DUE.is("cut", y.mutant(0, 3), 0);
        y.run(0, 500);
        DUE.is("survived again", y.mutant(0, 3), -1);
    }

    private static void whetherAlike() {
        DUE.by("Promise 6", "4 whether it is proved ALIKE (1, 0)");
        MutantRows x = Built.ofThree(3, 5, 0, 0);
        x.test(3, 0, 5);
        x.make(0);
        x.make(2);
        DUE.is("a NUMBER", x.mutant(0, 4), 0);
        DUE.is("5 + 0, not RUN yet", x.mutant(2, 4), 1);
        x.run(2, 1);
        DUE.is("5 + 0 that was cut", x.mutant(2, 4), 1);
    }

    private static void noSuchMutant() {
        DUE.by("Promise 6", "NONE if there is none such");
        MutantRows x = Built.numbers(2);
        for (int i : Built.outside(2)) {
            for (int what = 0; what < 5; what++) {
                DUE.is("mutant(" + i + ", " + what + ")", x.mutant(i, what), -1);
            }
        }
        DUE.is("the last one is there", x.mutant(1, 1), 1);
    }

    private static void anotherWhat() {
        DUE.by("Promise 6", "or for another what");
        MutantRows x = Built.numbers(2);
        x.run(1, 10);
        for (int what : Built.outside(5)) {
            DUE.is("mutant(1, " + what + ")", x.mutant(1, what), -1);
        }
    }
}
