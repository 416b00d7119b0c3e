/** Promises 3 and 4: test and about, with what a STEP is and what a TEST COVERS. */
public final class TriedTest {
    private static final Due DUE = new Due("TriedTest");

    public static void main(String[] args) {
        eachTimeIsAStep();
        toldAtItsBeginning();
        oneMoreThanTheBound();
        numberedFromZero();
        twentyFour();
        boundOfThreeThousand();
        triedAgainBehindAChange();
        passesIfWanted();
        cutNeverPasses();
        coversAlsoIfCut();
        newTests();
        fullOfTests();
        noSuchNode();
        aboutPassing();
        aboutSteps();
        aboutCovered();
        aboutNoSuchTest();
        aboutAnotherWhat();
        DUE.end();
    }

    private static void eachTimeIsAStep() {
        DUE.by("Terms", "Each time a NODE is worked out is a STEP");
        MutantRows x = new MutantRows();
        x.node(1, 0, 0, 0);
        x.node(5, 0, 0, 0);
        x.node(3, 1, 1, 0);
        x.test(2, 3, 18);
        DUE.is("INPUT four times, MUL twice", x.about(0, 1), 7);
        x.test(0, 3, 3);
        DUE.is("INPUT alone", x.about(1, 1), 1);
    }

    private static void toldAtItsBeginning() {
        DUE.by("Terms", "told at its beginning");
        MutantRows x = Built.endless();
        for (int i = 3; i < 64; i++) {
            x.node(3, i - 1, 0, 0);
        }
        x.test(63, 0, 0);
        DUE.is("61 ADDs and a LOOP that never end are covered too", x.about(0, 2), 64);
        DUE.is("cut", x.about(0, 0), -2);
    }

    /** At 10 an ADD, for an input of 748: of 3000 STEPS, or of 3001 if the NUMBER at 5 is 0. */
    private static MutantRows atTheBound() {
        MutantRows x = Built.counting();
        int number = x.node(0, 1, 0, 0);
        int three = x.node(3, number, number, 0);
        int two = x.node(9, number, number, 0);
        int four = x.node(3, two, number, 0);
        int choice = x.node(8, number, three, four);
        int root = x.node(3, choice, 4, 0);
        DUE.is("the NUMBER", number, 5);
        DUE.is("the ROOT", root, 10);
        return x;
    }

    private static void oneMoreThanTheBound() {
        DUE.by("Terms", "If it would be one more than the BOUND: it is CUT.");
        MutantRows x = Built.numbers(1);
        x.node(3, 0, 0, 0);
        x.test(1, 0, 0);
        x.make(2);
        DUE.is("3 STEPS of 3", x.run(1, 3), 0);
        DUE.is("3 STEPS of 2", x.run(1, 2), 2);
        DUE.is("3 STEPS of 4", x.run(1, 4), 0);
        DUE.is("1 STEP of 1, but it isn't wanted", x.run(0, 1), 1);
    }

    private static void numberedFromZero() {
        DUE.by("Terms", "numbered from 0, have a ROOT, an INPUT and a WANTED number");
        MutantRows x = new MutantRows();
        x.node(1, 0, 0, 0);
        x.node(3, 0, 0, 0);
        DUE.is("first", x.test(0, 5, 5), 0);
        DUE.is("second", x.test(1, 6, 12), 1);
        DUE.is("third", x.test(0, 12, 6), 2);
        DUE.is("the first one's", x.about(0, 0), 1);
        DUE.is("the second one's", x.about(1, 0), 1);
        DUE.is("the third one's", x.about(2, 0), 0);
    }

    private static void twentyFour() {
        DUE.by("Terms", "TESTS, at most 24");
        MutantRows x = new MutantRows();
        x.node(1, 0, 0, 0);
        x.node(3, 0, 0, 0);
        for (int i = 0; i < 24; i++) {
            DUE.is("test " + i, x.test(i % 2, i, i + i % 2 * i), i);
        }
        for (int i = 0; i < 24; i++) {
            DUE.is("passes: " + i, x.about(i, 0), 1);
            DUE.is("steps of " + i, x.about(i, 1), i % 2 == 0 ? 1 : 3);
        }
    }

    private static void boundOfThreeThousand() {
        DUE.by("Terms", "A TEST is TRIED with a BOUND of 3000 when it is made");
        MutantRows x = Built.counting();
        x.test(4, 749, 749);
        DUE.is("2998 STEPS pass", x.about(0, 0), 1);
        int sum = x.node(3, 2, 4, 0);
        x.test(sum, 749, 750);
        DUE.is("3000 STEPS pass", x.about(1, 0), 1);
        x.test(sum, 749, 751);
        DUE.is("3000 STEPS fail", x.about(2, 0), 0);
        int noTurn = x.node(9, x.node(0, 0, 0, 0), 2, 0);
        int odd = x.node(3, noTurn, 4, 0);
        x.test(odd, 749, 749);
        DUE.is("3001 STEPS are cut", x.about(3, 0), -2);
        x.test(odd, 748, 748);
        DUE.is("2997 STEPS pass", x.about(4, 0), 1);
        x.test(x.node(3, sum, 2, 0), 749, 751);
        DUE.is("3002 STEPS are cut", x.about(5, 0), -2);
    }

    private static void triedAgainBehindAChange() {
        DUE.by("Terms", "and again when a NUMBER changes");
        MutantRows x = atTheBound();
        x.test(10, 748, 750);
        DUE.is("3000 STEPS pass", x.about(0, 0), 1);
        DUE.is("3000 STEPS", x.about(0, 1), 3000);
        x.make(0);
        x.run(0, 5);
        DUE.is("3001 STEPS behind the change", x.change(5, 0), 0);
        DUE.is("are cut", x.about(0, 0), -2);
        DUE.is("3000 STEPS if cut", x.about(0, 1), 3000);
        DUE.is("a RUN with another BOUND", x.run(0, 5000), 0);
        DUE.is("3000 STEPS again", x.change(5, 1), 1);
        DUE.is("pass again", x.about(0, 0), 1);
        x.run(0, 5000);
        DUE.is("a BOUND of 3000 behind that RUN too", x.change(5, 0), 0);
        DUE.is("are cut again", x.about(0, 0), -2);
    }

    private static void passesIfWanted() {
        DUE.by("Terms", "it PASSES if it isn't CUT, and the ROOT is WANTED");
        MutantRows x = new MutantRows();
        x.node(1, 0, 0, 0);
        long[] numbers = {0, -1, 1L << 32, Built.LOW, Built.BIG};
        int t = 0;
        for (long input : numbers) {
            for (long wanted : numbers) {
                if (t < 24) {
                    x.test(0, input, wanted);
                    DUE.is(input + " where " + wanted + " is wanted", x.about(t, 0), input == wanted ? 1 : 0);
                }
                t++;
            }
        }
    }

    private static void cutNeverPasses() {
        DUE.by("Terms", "if it isn't CUT");
        MutantRows x = Built.endless();
        for (int wanted = -1; wanted < 2; wanted++) {
            int t = x.test(2, 0, wanted);
            DUE.is("the LOOP's ACC is 0 all the time, wanted is " + wanted, x.about(t, 0), -2);
        }
        DUE.is("none of them passes", x.change(0, 1), 0);
        DUE.is("no MUTANTS of them", x.make(0), 0);
    }

    private static void coversAlsoIfCut() {
        DUE.by("Terms", "it COVERS the NODES that were worked out by then (also if it was CUT)");
        MutantRows x = Built.endless();
        x.node(0, 5, 0, 0);
        x.node(3, 2, 3, 0);
        x.test(4, 0, 5);
        DUE.is("all but the NUMBER behind the LOOP", x.about(0, 2), 4);
        MutantRows y = Built.counting();
        y.node(0, 9, 0, 0);
        y.node(3, 4, 5, 0);
        y.node(9, 6, 2, 0);
        y.test(6, 749, 758);
        y.test(7, 749, 759);
        DUE.is("3000 STEPS pass", y.about(0, 0), 1);
        DUE.is("the NUMBER that is the 3000th is covered", y.about(0, 2), 7);
        DUE.is("3001 are cut", y.about(1, 0), -2);
        DUE.is("the NUMBER that would be the 3001st isn't", y.about(1, 2), 7);
        MutantRows z = Built.ofThree(3, 1, 2, 3);
        z.test(3, 0, 99);
        DUE.is("also if it fails", z.about(0, 2), 3);
    }

    private static void newTests() {
        DUE.by("Promise 3", "A new TEST: its number");
        MutantRows x = new MutantRows();
        x.node(1, 0, 0, 0);
        DUE.is("first", x.test(0, 5, 5), 0);
        DUE.is("the same again is another", x.test(0, 5, 5), 1);
        DUE.is("one that fails", x.test(0, 5, 6), 2);
        DUE.is("behind a refused one", x.test(1, 5, 5) + x.test(0, 1, 1), -1 + 3);
    }

    private static void fullOfTests() {
        DUE.by("Promise 3", "NONE if there are 24");
        MutantRows x = new MutantRows();
        x.node(1, 0, 0, 0);
        DUE.is("refused ones don't count", x.test(9, 0, 0), -1);
        for (int i = 0; i < 23; i++) {
            x.test(0, i, i);
        }
        DUE.is("the 24th", x.test(0, 50, 51), 23);
        DUE.is("the 25th", x.test(0, 1, 1), -1);
        DUE.is("the 25th that fails", x.test(0, 1, 2), -1);
        DUE.is("about the 25th", x.about(24, 0), -1);
        DUE.is("the 24th is what it was", x.about(23, 0), 0);
        DUE.is("the first is what it was", x.about(0, 0), 1);
        x.node(0, 3, 0, 0);
        DUE.is("23 pass", x.change(1, 4), 23);
    }

    private static void noSuchNode() {
        DUE.by("Promise 3", "or there is no such NODE");
        MutantRows x = new MutantRows();
        DUE.is("none at all", x.test(0, 0, 0), -1);
        x.node(1, 0, 0, 0);
        x.node(1, 0, 0, 0);
        for (int root : Built.outside(2)) {
            DUE.is("test of " + root, x.test(root, 0, 0), -1);
        }
        DUE.is("of the last one", x.test(1, 0, 0), 0);
        DUE.is("no other came", x.about(1, 0), -1);
    }

    private static void aboutPassing() {
        DUE.by("Promise 4", "0 whether it PASSES (1, 0; - 2 if it was CUT)");
        MutantRows x = Built.counting();
        x.test(4, 5, 5);
        x.test(4, 5, 4);
        x.test(4, 900, 900);
        DUE.is("passes", x.about(0, 0), 1);
        DUE.is("fails", x.about(1, 0), 0);
        DUE.is("was cut", x.about(2, 0), -2);
    }

    private static void aboutSteps() {
        DUE.by("Promise 4", "1 how many STEPS it took (3000 if CUT)");
        MutantRows x = Built.counting();
        x.test(1, 0, 0);
        x.test(4, 749, 749);
        x.test(4, 749, -1);
        x.test(4, 750, 750);
        DUE.is("one", x.about(0, 1), 1);
        DUE.is("2998", x.about(1, 1), 2998);
        DUE.is("2998 if it fails", x.about(2, 1), 2998);
        DUE.is("3002 would be", x.about(3, 1), 3000);
    }

    private static void aboutCovered() {
        DUE.by("Promise 4", "2 how many NODES it COVERS");
        MutantRows x = Built.tower(0, 1, 64);
        for (int i = 0; i < 24; i++) {
            x.test(63 - i, 0, 0);
            DUE.is("of the tower", x.about(i, 2), 64 - i);
        }
        MutantRows y = Built.numbers(1);
        DUE.is("one alone", y.about(0, 2), 1);
    }

    private static void aboutNoSuchTest() {
        DUE.by("Promise 4", "NONE if there is none such");
        MutantRows x = new MutantRows();
        DUE.is("none at all", x.about(0, 1), -1);
        x.node(1, 0, 0, 0);
        x.test(0, 3, 3);
        x.test(0, 3, 3);
        for (int test : Built.outside(2)) {
            for (int what = 0; what < 3; what++) {
                DUE.is("about(" + test + ", " + what + ")", x.about(test, what), -1);
            }
        }
    }

    private static void aboutAnotherWhat() {
        DUE.by("Promise 4", "or for another what");
        MutantRows x = new MutantRows();
        x.node(1, 0, 0, 0);
        x.test(0, 3, 3);
        for (int what : Built.outside(3)) {
            DUE.is("about(0, " + what + ")", x.about(0, what), -1);
        }
    }
}
