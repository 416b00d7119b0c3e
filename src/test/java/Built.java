/** Objects with small trees that several tests begin with. */
final class Built {
    static final long BIG = Long.MAX_VALUE;
    static final long LOW = Long.MIN_VALUE;

    private Built() {
    }

    /** Indexes that a row of this size doesn't have: next to it, and as far as they go. */
    static int[] outside(int size) {
        return new int[] {-1, size, -2, size + 1, Integer.MIN_VALUE, Integer.MAX_VALUE};
    }

    /** NUMBERS a, b, c at 0, 1, 2; a NODE of this kind of them at 3. */
    static MutantRows ofThree(int kind, long a, long b, long c) {
        MutantRows x = new MutantRows();
        x.node(0, a, 0, 0);
        x.node(0, b, 0, 0);
        x.node(0, c, 0, 0);
        x.node(kind, 0, 1, 2);
        return x;
    }

    /** NUMBER 6, INPUT, ACC at 0, 1, 2; at 3 to 9 each kind of a = ACC, b = INPUT, c = NUMBER. */
    static MutantRows oneOfEach() {
        MutantRows x = new MutantRows();
        x.node(0, 6, 0, 0);
        x.node(1, 0, 0, 0);
        x.node(2, 0, 0, 0);
        for (int kind = 3; kind <= 9; kind++) {
            x.node(kind, 2, 1, 0);
        }
        return x;
    }

    /** INPUT, ACC, NUMBER 1, ADD of both, and at 4 a LOOP up to the input: 2 + 4 * input STEPS. */
    static MutantRows counting() {
        MutantRows x = new MutantRows();
        x.node(1, 0, 0, 0);
        x.node(2, 0, 0, 0);
        x.node(0, 1, 0, 0);
        x.node(3, 1, 2, 0);
        x.node(9, 0, 3, 0);
        return x;
    }

    /** NUMBERS 1 and 0, and at 2 a LOOP of them that has no end. */
    static MutantRows endless() {
        MutantRows x = new MutantRows();
        x.node(0, 1, 0, 0);
        x.node(0, 0, 0, 0);
        x.node(9, 0, 1, 0);
        return x;
    }

    /** A NUMBER at 0 decides: at 2 INPUT + INPUT, at 3 INPUT - INPUT, at 4 CHOOSE. */
    static MutantRows branching(long number) {
        MutantRows x = new MutantRows();
        x.node(0, number, 0, 0);
        x.node(1, 0, 0, 0);
        x.node(3, 1, 1, 0);
        x.node(4, 1, 1, 0);
        x.node(8, 0, 2, 3);
        return x;
    }

    /** A NODE without parts at 0, and ADDs of the one before and of that one: NODE i is i + 1 times it. */
    static MutantRows tower(int kind, long a, int height) {
        MutantRows x = new MutantRows();
        x.node(kind, a, 0, 0);
        for (int i = 1; i < height; i++) {
            x.node(3, i - 1, 0, 0);
        }
        return x;
    }

    /** NUMBERS 0, 1, .. each with a TEST that passes, and its MUTANT of KIND 0. */
    static MutantRows numbers(int count) {
        MutantRows x = new MutantRows();
        for (int i = 0; i < count; i++) {
            x.node(0, i, 0, 0);
            x.test(i, 0, i);
        }
        x.make(0);
        return x;
    }

    /** 100 MUTANTS at a tower of ADDs, which is multiplied by an input of 0: all of them survive. */
    static MutantRows hundredThatSurvive() {
        MutantRows x = tower(1, 0, 63);
        x.node(5, 62, 0, 0);
        x.test(63, 0, 0);
        x.make(2);
        x.make(4);
        return x;
    }
}
