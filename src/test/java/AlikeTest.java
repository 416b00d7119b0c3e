/** Terms: which MUTANTS are proved ALIKE, and which are not. */
public final class AlikeTest {
    private static final Due DUE = new Due("AlikeTest");

    public static void main(String[] args) {
        lessOfNumbersThatDiffer();
        signsWithZero();
        branchesThatAreTheSame();
        branchesBuiltAlike();
        branchesOfNumbers();
        branchesOfDeepTrees();
        firstAloneWithZero();
        firstAloneWithOne();
        othersAreNot();
        asTheNumbersAreNow();
        DUE.end();
    }

    /** Whether the MUTANT of a KIND at the last of these NODES is ALIKE. */
    private static void alike(String what, int kind, int want, long[]... nodes) {
        MutantRows x = new MutantRows();
        int root = -1;
        for (long[] n : nodes) {
            root = x.node((int) n[0], n[1], n.length > 2 ? (int) n[2] : 0, n.length > 3 ? (int) n[3] : 0);
        }
        DUE.is(what + " is built", root, nodes.length - 1);
        // Another ROOT of the same NODE that is 0 in any case, so that a TEST passes.
        x.node(0, 0, 0, 0);
        x.node(5, root, root + 1, 0);
        x.test(root + 2, 3, 0);
        x.make(kind);
        int found = -1;
        for (int i = 0; x.mutant(i, 0) != -1; i++) {
            found = x.mutant(i, 1) == root ? i : found;
        }
        DUE.is(what, found == -1 ? -1 : x.mutant(found, 4), want);
    }

    private static long[] of(long... numbers) {
        return numbers;
    }

    private static void lessOfNumbersThatDiffer() {
        DUE.by("Terms", "KIND 1: LESS of two NUMBERS that differ.");
        alike("3 < 4", 1, 1, of(0, 3), of(0, 4), of(6, 0, 1));
        alike("4 < 3", 1, 1, of(0, 4), of(0, 3), of(6, 0, 1));
        alike("0 < 2^32", 1, 1, of(0, 0), of(0, 1L << 32), of(6, 0, 1));
        alike("lowest < highest", 1, 1, of(0, Built.LOW), of(0, Built.BIG), of(6, 0, 1));
        alike("4 < 4", 1, 0, of(0, 4), of(0, 4), of(6, 0, 1));
        alike("one NUMBER below itself", 1, 0, of(0, 4), of(6, 0, 0));
        alike("input < 4", 1, 0, of(1, 0), of(0, 4), of(6, 0, 1));
        alike("4 < input", 1, 0, of(0, 4), of(1, 0), of(6, 0, 1));
        alike("4 < 1 + 1", 1, 0, of(0, 4), of(0, 1), of(3, 1, 1), of(6, 0, 2));
    }

    private static void signsWithZero() {
        DUE.by("Terms", "2: b is a NUMBER 0.");
        for (int kind = 3; kind < 5; kind++) {
            alike("input and 0", 2, 1, of(1, 0), of(0, 0), of(kind, 0, 1));
            alike("0 and 0", 2, 1, of(0, 0), of(kind, 0, 0));
            alike("0 and input", 2, 0, of(1, 0), of(0, 0), of(kind, 1, 0));
            alike("input and 1", 2, 0, of(1, 0), of(0, 1), of(kind, 0, 1));
            alike("input and -1", 2, 0, of(1, 0), of(0, -1), of(kind, 0, 1));
            alike("input and 2^32", 2, 0, of(1, 0), of(0, 1L << 32), of(kind, 0, 1));
            alike("input and lowest", 2, 0, of(1, 0), of(0, Built.LOW), of(kind, 0, 1));
            alike("input and ACC", 2, 0, of(1, 0), of(2, 0), of(kind, 0, 1));
            alike("input and 0 + 0", 2, 0, of(1, 0), of(0, 0), of(3, 1, 1), of(kind, 0, 2));
        }
    }

    private static void branchesThatAreTheSame() {
        DUE.by("Terms", "3: b and c are the same");
        alike("INPUT twice", 3, 1, of(1, 0), of(8, 0, 0, 0));
        alike("a sum twice", 3, 1, of(1, 0), of(3, 0, 0), of(8, 0, 1, 1));
        alike("a and b are the same, c isn't", 3, 0, of(1, 0), of(0, 7), of(8, 0, 0, 1));
        alike("a and c are the same, b isn't", 3, 0, of(1, 0), of(0, 7), of(8, 0, 1, 0));
    }

    private static void branchesBuiltAlike() {
        DUE.by("Terms", "or built alike from alike ones");
        alike("two INPUTS", 3, 1, of(1, 0), of(1, 0), of(8, 0, 0, 1));
        alike("two ACCS", 3, 1, of(2, 0), of(2, 0), of(8, 0, 0, 1));
        alike("INPUT and ACC", 3, 0, of(1, 0), of(2, 0), of(8, 0, 0, 1));
        for (int kind = 3; kind < 10; kind++) {
            alike("alike parts, kind " + kind, 3, 1,
                    of(1, 0), of(0, 7), of(1, 0), of(0, 7), of(kind, 0, 1, 0), of(kind, 2, 3, 2), of(8, 0, 4, 5));
            alike("another a, kind " + kind, 3, 0,
                    of(1, 0), of(0, 7), of(2, 0), of(0, 7), of(kind, 0, 1, 0), of(kind, 2, 3, 0), of(8, 0, 4, 5));
            alike("another b, kind " + kind, 3, 0,
                    of(1, 0), of(0, 7), of(1, 0), of(0, 8), of(kind, 0, 1, 0), of(kind, 2, 3, 0), of(8, 0, 4, 5));
            alike("the other way round, kind " + kind, 3, 0,
                    of(1, 0), of(0, 7), of(kind, 0, 1, 0), of(kind, 1, 0, 0), of(8, 0, 2, 3));
            alike("another kind than " + kind, 3, 0,
                    of(1, 0), of(0, 7), of(kind, 0, 1, 0), of(kind == 9 ? 3 : kind + 1, 0, 1, 0), of(8, 0, 2, 3));
        }
        alike("another c", 3, 0, of(1, 0), of(0, 7), of(8, 0, 0, 0), of(8, 0, 0, 1), of(8, 0, 2, 3));
    }

    private static void branchesOfNumbers() {
        DUE.by("Terms", "(NUMBERS with the same number)");
        alike("7 and 7", 3, 1, of(1, 0), of(0, 7), of(0, 7), of(8, 0, 1, 2));
        alike("lowest and lowest", 3, 1, of(1, 0), of(0, Built.LOW), of(0, Built.LOW), of(8, 0, 1, 2));
        alike("7 and 8", 3, 0, of(1, 0), of(0, 7), of(0, 8), of(8, 0, 1, 2));
        alike("7 and -7", 3, 0, of(1, 0), of(0, 7), of(0, -7), of(8, 0, 1, 2));
        alike("0 and 2^32", 3, 0, of(1, 0), of(0, 0), of(0, 1L << 32), of(8, 0, 1, 2));
        alike("0 and ACC", 3, 0, of(0, 0), of(2, 0), of(8, 0, 0, 1));
        alike("2 and 1 + 1", 3, 0, of(0, 2), of(0, 1), of(3, 1, 1), of(8, 0, 0, 2));
    }

    /** Two towers with 2 to the 29 ways down each: a walk down both would not come to an end. */
    private static void branchesOfDeepTrees() {
        DUE.by("Terms", "b and c are the same, or built alike from alike ones");
        MutantRows y = new MutantRows();
        y.node(1, 0, 0, 0);
        y.node(0, 5, 0, 0);
        y.node(0, 5, 0, 0);
        for (int i = 3; i < 63; i++) {
            y.node(8, 0, i - 2, i - 2);
        }
        y.node(8, 0, 61, 62);
        y.test(63, 0, 5);
        DUE.is("31 CHOOSES and the NUMBER", y.about(0, 2), 33);
        DUE.is("their MUTANTS", y.make(3), 31);
        DUE.is("the last one's NODE", y.mutant(30, 1), 63);
        DUE.is("towers are alike", y.mutant(30, 4), 1);
        y.change(1, 6);
        DUE.is("towers aren't alike any more", y.mutant(30, 4), 0);
        DUE.is("but b and c are the same below", y.mutant(29, 4), 1);
        y.change(2, 6);
        DUE.is("towers are alike again", y.mutant(30, 4), 1);
    }

    private static void firstAloneWithZero() {
        DUE.by("Terms", "4: ADD, SUB with a NUMBER 0 as b");
        for (int kind = 3; kind < 5; kind++) {
            alike("input and 0", 4, 1, of(1, 0), of(0, 0), of(kind, 0, 1));
            alike("0 and input", 4, 0, of(1, 0), of(0, 0), of(kind, 1, 0));
            alike("input and 1", 4, 0, of(1, 0), of(0, 1), of(kind, 0, 1));
            alike("input and -1", 4, 0, of(1, 0), of(0, -1), of(kind, 0, 1));
            alike("input and 2^32", 4, 0, of(1, 0), of(0, 1L << 32), of(kind, 0, 1));
            alike("input and ACC", 4, 0, of(1, 0), of(2, 0), of(kind, 0, 1));
        }
    }

    private static void firstAloneWithOne() {
        DUE.by("Terms", "MUL with a NUMBER 1");
        alike("input * 1", 4, 1, of(1, 0), of(0, 1), of(5, 0, 1));
        alike("1 * 1", 4, 1, of(0, 1), of(5, 0, 0));
        alike("input * 0", 4, 0, of(1, 0), of(0, 0), of(5, 0, 1));
        alike("input * 2", 4, 0, of(1, 0), of(0, 2), of(5, 0, 1));
        alike("input * -1", 4, 0, of(1, 0), of(0, -1), of(5, 0, 1));
        alike("input * (2^32 + 1)", 4, 0, of(1, 0), of(0, (1L << 32) + 1), of(5, 0, 1));
        // With the 1 as a, `a alone` is 1: as b is meant, as in the words before.
        alike("1 * input", 4, 0, of(1, 0), of(0, 1), of(5, 1, 0));
    }

    private static void othersAreNot() {
        DUE.by("Terms", "Others aren't.");
        alike("a NUMBER 0", 0, 0, of(0, 0));
        alike("a NUMBER 1", 0, 0, of(0, 1));
        alike("3 = 4", 5, 0, of(0, 3), of(0, 4), of(7, 0, 1));
        alike("4 = 4", 5, 0, of(0, 4), of(0, 4), of(7, 0, 1));
        alike("input - input", 2, 0, of(1, 0), of(4, 0, 0));
        alike("input < input", 1, 0, of(1, 0), of(6, 0, 0));
    }

    private static void asTheNumbersAreNow() {
        DUE.by("Terms", "Proved ALIKE: KIND 1: LESS of two NUMBERS that differ.");
        MutantRows x = Built.ofThree(6, 3, 3, 0);
        x.node(8, 3, 0, 1);
        x.node(3, 4, 2, 0);
        x.test(5, 0, 3);
        x.make(1);
        x.make(3);
        x.make(2);
        long[][] changes = {{2, 0}, {0, 2}, {1, 2}, {2, 1}, {2, 0}};
        int[][] due = {{0, 1, 1}, {1, 0, 1}, {0, 1, 1}, {0, 1, 0}, {0, 1, 1}};
        for (int i = 0; i < changes.length; i++) {
            x.change((int) changes[i][0], changes[i][1]);
            for (int m = 0; m < 3; m++) {
                DUE.is("MUTANT " + m + " behind change " + i, x.mutant(m, 4), due[i][m]);
            }
        }
    }
}
