/** Promises 11 to 14: sample, sampled, score and miss. */
public final class ScoresTest {
    private static final Due DUE = new Due("ScoresTest");

    public static void main(String[] args) {
        samplesBySeed();
        wrongSamples();
        sampleIsThatOfItsTime();
        scores();
        wrongScores();
        misses();
        DUE.end();
    }

    /** NUMBERS alone, each with a TEST that passes: as many MUTANTS of KIND 0. */
    private static MutantRows numbers(int count) {
        MutantRows x = new MutantRows();
        for (int i = 0; i < count; i++) {
            x.node(0, i, 0, 0);
            x.test(i, 0, i);
        }
        x.make(0);
        return x;
    }

    private static int[] shuffled(long seed, int n, int count) {
        int[] row = new int[count];
        for (int i = 0; i < count; i++) {
            row[i] = i;
        }
        java.math.BigInteger x = java.math.BigInteger.valueOf(seed);
        java.math.BigInteger word = java.math.BigInteger.ONE.shiftLeft(64);
        for (int i = 0; i < n; i++) {
            x = x.multiply(new java.math.BigInteger("6364136223846793005"))
                    .add(new java.math.BigInteger("1442695040888963407")).mod(word);
            int other = i + x.shiftRight(33).mod(java.math.BigInteger.valueOf(count - i)).intValue();
            int moved = row[i];
            row[i] = row[other];
            row[other] = moved;
        }
        return row;
    }

    private static void samplesBySeed() {
        int count = 24;
        MutantRows x = numbers(count);
        long[] seeds = {0, 1, -1, 12345, Long.MAX_VALUE, Long.MIN_VALUE};
        for (long seed : seeds) {
            for (int n = 0; n <= count; n += 6) {
                DUE.is("sample(" + seed + ", " + n + ")", x.sample(seed, n), true);
                int[] due = shuffled(seed, n, count);
                for (int i = 0; i < n; i++) {
                    DUE.is("sampled(" + i + ") of " + seed, x.sampled(i), due[i]);
                }
                DUE.is("sampled(" + n + ") of " + seed, x.sampled(n), -1);
            }
        }
        MutantRows y = numbers(1);
        DUE.is("one of one", y.sample(9, 1), true);
        DUE.is("that one", y.sampled(0), 0);
    }

    private static void wrongSamples() {
        MutantRows x = numbers(5);
        DUE.is("none yet", x.sampled(0), -1);
        x.sample(7, 2);
        int first = x.sampled(0);
        int second = x.sampled(1);
        DUE.is("more than there are", x.sample(1, 6), false);
        DUE.is("less than none", x.sample(1, -1), false);
        DUE.is("the lowest", x.sample(1, Integer.MIN_VALUE), false);
        DUE.is("the highest", x.sample(1, Integer.MAX_VALUE), false);
        DUE.is("the latest sample stays", x.sampled(0), first);
        DUE.is("all of it", x.sampled(1), second);
        DUE.is("no more of it", x.sampled(2), -1);
        DUE.is("below 0", x.sampled(-1), -1);
        DUE.is("the lowest", x.sampled(Integer.MIN_VALUE), -1);
        DUE.is("the highest", x.sampled(Integer.MAX_VALUE), -1);
        DUE.is("none of five", x.sample(7, 0), true);
        DUE.is("the latest one is empty", x.sampled(0), -1);
    }

    private static void sampleIsThatOfItsTime() {
        MutantRows x = numbers(3);
        x.sample(5, 3);
        int[] due = shuffled(5, 3, 3);
        x.node(3, 0, 1, 0);
        x.test(3, 0, 1);
        x.make(2);
        x.run(0, 10);
        for (int i = 0; i < 3; i++) {
            DUE.is("sampled(" + i + ")", x.sampled(i), due[i]);
        }
        x.sample(5, 4);
        due = shuffled(5, 4, 4);
        for (int i = 0; i < 4; i++) {
            DUE.is("sampled(" + i + ") of four", x.sampled(i), due[i]);
        }
    }

    /** Mutants: 0 and 1 KIND 2 (killed, ALIKE), 2 and 3 KIND 4 (killed, ALIKE), 4 KIND 1 (missed). */
    private static MutantRows mixed() {
        MutantRows x = new MutantRows();
        x.node(1, 0, 0, 0);
        x.node(0, 0, 0, 0);
        x.node(3, 0, 0, 0);
        x.node(4, 2, 1, 0);
        x.node(6, 3, 0, 0);
        x.node(2, 0, 0, 0);
        x.node(3, 5, 0, 0);
        x.node(9, 0, 6, 0);
        x.test(3, 5, 10);
        x.test(4, 5, 0);
        x.test(7, 1, 1);
        x.make(2);
        x.make(4);
        x.make(1);
        return x;
    }

    private static void scores() {
        MutantRows x = mixed();
        for (int side = 0; side < 3; side++) {
            DUE.is("nothing known yet", x.score(-1, side), 0);
        }
        int[] kinds = {2, 2, 2, 4, 4, 4, 1};
        int[] outcomes = {1, 0, 2, 1, 0, 2, 0};
        for (int i = 0; i < kinds.length; i++) {
            DUE.is("kind of " + i, x.mutant(i, 0), kinds[i]);
            DUE.is("run of " + i, x.run(i, 100), outcomes[i]);
            DUE.is("known by now", x.score(-1, 1), i + 1);
        }
        int[][] due = {{0, 0, 0}, {0, 1, 1}, {2, 3, 0}, {0, 0, 0}, {2, 3, 0}, {0, 0, 0}};
        int[] all = {4, 7, 1};
        for (int side = 0; side < 3; side++) {
            for (int kind = 0; kind < 6; kind++) {
                DUE.is("score(" + kind + ", " + side + ")", x.score(kind, side), due[kind][side]);
            }
            DUE.is("score(-1, " + side + ")", x.score(-1, side), all[side]);
        }
        x.change(1, 1);
        DUE.is("only those of the loop are known now", x.score(-1, 1), 2);
    }

    private static void wrongScores() {
        MutantRows x = mixed();
        int[] wrongKinds = {-2, 6, 7, Integer.MAX_VALUE, Integer.MIN_VALUE};
        for (int kind : wrongKinds) {
            DUE.is("score(" + kind + ", 0)", x.score(kind, 0), -1);
        }
        int[] wrongSides = {-1, 3, 4, Integer.MAX_VALUE, Integer.MIN_VALUE};
        for (int side : wrongSides) {
            DUE.is("score(0, " + side + ")", x.score(0, side), -1);
            DUE.is("score(-1, " + side + ")", x.score(-1, side), -1);
        }
    }

    private static void misses() {
        MutantRows x = mixed();
        DUE.is("nothing run yet", x.miss(0), -1);
        for (int i = 0; i < 7; i++) {
            x.run(i, 100);
        }
        DUE.is("the first that is missed", x.miss(0), 6);
        DUE.is("no second", x.miss(1), -1);
        DUE.is("below 0", x.miss(-1), -1);
        DUE.is("the lowest", x.miss(Integer.MIN_VALUE), -1);
        DUE.is("the highest", x.miss(Integer.MAX_VALUE), -1);
        MutantRows y = new MutantRows();
        y.node(1, 0, 0, 0);
        y.node(0, 3, 0, 0);
        y.node(0, 4, 0, 0);
        y.node(5, 0, 1, 0);
        y.node(5, 0, 2, 0);
        y.test(3, 0, 0);
        y.test(4, 0, 0);
        y.make(0);
        y.make(4);
        for (int i = 3; i >= 0; i--) {
            DUE.is("survives", y.run(i, 10), 0);
        }
        for (int i = 0; i < 4; i++) {
            DUE.is("by numbers", y.miss(i), i);
        }
        DUE.is("no more", y.miss(4), -1);
        y.change(1, 1);
        DUE.is("forgotten ones aren't missed", y.miss(0), 1);
        y.run(2, 10);
        DUE.is("an ALIKE one isn't missed", y.mutant(2, 4), 1);
        DUE.is("nor told", y.miss(1), 3);
        DUE.is("side 2 counts the same", y.score(-1, 2), 2);
    }
}
