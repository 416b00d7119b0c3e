import java.math.BigInteger;

/** Promises 11 and 12: sample and sampled. */
public final class SamplesTest {
    private static final Due DUE = new Due("SamplesTest");

    public static void main(String[] args) {
        noneAndAll();
        noneOfNone();
        tooManyOrTooFew();
        aHundred();
        rowByNumbers();
        seedIsTheState();
        stateWrapsAround();
        shiftedWithoutSign();
        moduloWhatIsLeft();
        oneStateForEach();
        changesPlaces();
        firstAreTheSample();
        toldBySampled();
        latestSample();
        refusedOnesDrawNothing();
        sampledNone();
        DUE.end();
    }

    /** The document's rule once more, in numbers without an end. */
    private static int[] shuffled(long seed, int n, int count) {
        int[] row = new int[count];
        for (int i = 0; i < count; i++) {
            row[i] = i;
        }
        BigInteger factor = new BigInteger("6364136223846793005");
        BigInteger step = new BigInteger("1442695040888963407");
        BigInteger word = BigInteger.ONE.shiftLeft(64);
        BigInteger x = BigInteger.valueOf(seed).mod(word);
        for (int i = 0; i < n; i++) {
            x = x.multiply(factor).add(step).mod(word);
            int other = i + x.shiftRight(33).mod(BigInteger.valueOf(count - i)).intValue();
            int moved = row[i];
            row[i] = row[other];
            row[other] = moved;
        }
        return row;
    }

    private static void isDrawn(MutantRows x, long seed, int n, int count) {
        DUE.is("sample(" + seed + ", " + n + ")", x.sample(seed, n), true);
        int[] due = shuffled(seed, n, count);
        for (int i = 0; i < n; i++) {
            DUE.is("sampled(" + i + ") of " + seed, x.sampled(i), due[i]);
        }
        DUE.is("sampled(" + n + ") of " + seed, x.sampled(n), -1);
    }

    /** By a row that was worked out elsewhere, by another program. */
    private static void isRow(MutantRows x, long seed, int... due) {
        DUE.is("sample(" + seed + ", " + due.length + ")", x.sample(seed, due.length), true);
        for (int i = 0; i < due.length; i++) {
            DUE.is("sampled(" + i + ") of " + seed, x.sampled(i), due[i]);
        }
    }

    private static void noneAndAll() {
        DUE.by("Promise 11", "A sample of n MUTANTS (0 .. as many as there are): true");
        MutantRows x = Built.numbers(5);
        DUE.is("none of 5", x.sample(7, 0), true);
        DUE.is("none are told", x.sampled(0), -1);
        for (int n = 1; n <= 5; n++) {
            DUE.is(n + " of 5", x.sample(7, n), true);
            DUE.is("so many are told", x.sampled(n - 1) >= 0, true);
            DUE.is("and no more", x.sampled(n), -1);
        }
        MutantRows y = Built.numbers(1);
        DUE.is("one of one", y.sample(9, 1), true);
        DUE.is("that one", y.sampled(0), 0);
    }

    private static void noneOfNone() {
        DUE.by("Promise 11", "0 .. as many as there are");
        MutantRows x = new MutantRows();
        DUE.is("none of none", x.sample(1, 0), true);
        DUE.is("is told by none", x.sampled(0), -1);
        DUE.is("one of none", x.sample(1, 1), false);
    }

    private static void tooManyOrTooFew() {
        DUE.by("Promise 11", "0 .. as many as there are");
        MutantRows x = Built.numbers(5);
        for (int n : Built.outside(6)) {
            DUE.is(n + " of 5", x.sample(1, n), false);
        }
        DUE.is("NODES and TESTS don't count", x.node(0, 1, 0, 0) + x.test(5, 0, 1), 10);
        DUE.is("6 of 5 MUTANTS", x.sample(1, 6), false);
        x.make(0);
        DUE.is("6 of 6", x.sample(1, 6), true);
    }

    private static void aHundred() {
        DUE.by("Promise 11", "0 .. as many as there are");
        MutantRows x = Built.hundredThatSurvive();
        isDrawn(x, 77, 100, 100);
        DUE.is("one too many", x.sample(77, 101), false);
        isDrawn(x, -5, 99, 100);
    }

    private static void rowByNumbers() {
        DUE.by("Promise 11", "They lie in a row by their numbers");
        MutantRows x = Built.numbers(10);
        for (int again = 0; again < 3; again++) {
            isRow(x, 42, 4, 6, 0, 5, 1, 2, 7, 3, 8, 9);
            isRow(x, 0, 7, 4, 3);
        }
    }

    private static void seedIsTheState() {
        DUE.by("Promise 11", "the state x is the seed at first");
        MutantRows x = Built.numbers(10);
        isRow(x, 0, 7, 4, 3, 5, 9, 6, 2, 1, 8, 0);
        isRow(x, 42, 4, 6, 0);
        isRow(x, 2, 0, 4, 2);
        isRow(x, -1, 8, 6, 7);
    }

    private static void stateWrapsAround() {
        DUE.by("Promise 11", "x = x * 6364136223846793005 + 1442695040888963407");
        MutantRows x = Built.numbers(24);
        long[] seeds = {1, -1, 12345, Built.BIG, Built.LOW, 1L << 32};
        for (long seed : seeds) {
            isDrawn(x, seed, 24, 24);
        }
    }

    private static void shiftedWithoutSign() {
        DUE.by("Promise 11", "(x shifted right by 33, without sign)");
        MutantRows x = Built.numbers(10);
        // With seed 2 the first three states are below 0, with seed -1 eight of ten.
        isRow(x, 2, 0, 4, 2, 5, 9, 1, 6, 7, 3, 8);
        isRow(x, -1, 8, 6, 7, 5, 4, 2, 3, 9, 0, 1);
    }

    private static void moduloWhatIsLeft() {
        DUE.by("Promise 11", "modulo (how many there are, less i)");
        for (int count = 1; count <= 7; count++) {
            MutantRows x = Built.numbers(count);
            for (long seed = -3; seed <= 3; seed++) {
                isDrawn(x, seed, count, count);
            }
        }
    }

    private static void oneStateForEach() {
        DUE.by("Promise 11", "for i from 0 to n - 1: x = x *");
        MutantRows x = Built.numbers(10);
        // Fewer are drawn by the same states: the row's beginning doesn't hang on n.
        isRow(x, 42, 4);
        isRow(x, 42, 4, 6, 0, 5, 1);
        isRow(x, 42, 4, 6, 0, 5, 1, 2, 7, 3, 8);
        isRow(x, 42, 4, 6, 0, 5, 1, 2, 7, 3, 8, 9);
    }

    private static void changesPlaces() {
        DUE.by("Promise 11", "the i-th one changes places with that at i +");
        for (long seed = -20; seed <= 20; seed++) {
            MutantRows x = Built.numbers(12);
            x.sample(seed, 12);
            long seen = 0;
            for (int i = 0; i < 12; i++) {
                seen |= 1L << x.sampled(i);
            }
            DUE.is("each one once, by the seed " + seed, seen, (1L << 12) - 1);
        }
    }

    private static void firstAreTheSample() {
        DUE.by("Promise 11", "The first n are the sample.");
        MutantRows x = Built.numbers(10);
        int[] due = {7, 4, 3, 5, 9, 6, 2, 1, 8, 0};
        for (int n = 1; n <= 10; n++) {
            isRow(x, 0, java.util.Arrays.copyOf(due, n));
            DUE.is("no more than " + n, x.sampled(n), -1);
        }
    }

    private static void toldBySampled() {
        DUE.by("Promise 11", "it is told by sampled");
        MutantRows x = Built.numbers(10);
        x.sample(0, 3);
        for (int again = 0; again < 2; again++) {
            DUE.is("the third", x.sampled(2), 3);
            DUE.is("the first", x.sampled(0), 7);
            DUE.is("the second", x.sampled(1), 4);
        }
        for (int m = 0; m < 10; m++) {
            DUE.is("a MUTANT stays at its number: " + m, x.mutant(m, 1), m);
        }
    }

    private static void latestSample() {
        DUE.by("Promise 12", "The i-th one of the latest sample");
        MutantRows x = Built.numbers(10);
        x.sample(42, 10);
        x.sample(0, 2);
        DUE.is("the first", x.sampled(0), 7);
        DUE.is("the second", x.sampled(1), 4);
        DUE.is("not the third of the one before", x.sampled(2), -1);
        x.node(3, 0, 1, 0);
        x.test(10, 0, 1);
        x.make(2);
        x.run(0, 10);
        x.change(7, 99);
        DUE.is("the first, behind other calls", x.sampled(0), 7);
        DUE.is("the second", x.sampled(1), 4);
        DUE.is("no third", x.sampled(2), -1);
        isDrawn(x, 5, 11, 11);
    }

    private static void refusedOnesDrawNothing() {
        DUE.by("Promise 12", "the latest sample");
        MutantRows x = Built.numbers(10);
        x.sample(42, 3);
        DUE.is("too many", x.sample(0, 11), false);
        DUE.is("too few", x.sample(0, -1), false);
        DUE.is("the first is what it was", x.sampled(0), 4);
        DUE.is("the second", x.sampled(1), 6);
        DUE.is("the third", x.sampled(2), 0);
        DUE.is("no fourth", x.sampled(3), -1);
    }

    private static void sampledNone() {
        DUE.by("Promise 12", "NONE if there is none such");
        MutantRows x = Built.numbers(5);
        DUE.is("no sample yet", x.sampled(0), -1);
        x.sample(7, 2);
        for (int i : Built.outside(2)) {
            DUE.is("sampled(" + i + ") of 2", x.sampled(i), -1);
        }
        DUE.is("the last one", x.sampled(1) >= 0, true);
        x.sample(7, 5);
        for (int i : Built.outside(5)) {
            DUE.is("sampled(" + i + ") of 5", x.sampled(i), -1);
        }
        x.sample(7, 0);
        DUE.is("an empty one", x.sampled(0), -1);
    }
}
