/** Terms: what each kind of NODE is, up to the ends of 64 bits. */
public final class KindsTest {
    private static final Due DUE = new Due("KindsTest");
    private static final long BIG = Built.BIG;
    private static final long LOW = Built.LOW;

    public static void main(String[] args) {
        number();
        input();
        accOutsideOfAll();
        accBehindCutLoops();
        accOfTheInnermost();
        additions();
        aComesFirst();
        less();
        equal();
        choose();
        chooseWorksOutOne();
        loopBeginsWithZero();
        loopGoesOnWhileBelow();
        loopEndsAnew();
        loopIsAcc();
        numbersWrapAround();
        loopsWrapAround();
        signs();
        DUE.end();
    }

    /** Whether a NODE of a kind over NUMBERS is `want`, and nothing near or 32 bits off. */
    private static void worksOutAs(int kind, long a, long b, long c, long want) {
        MutantRows x = Built.ofThree(kind, a, b, c);
        String what = "kind " + kind + " of " + a + ", " + b + ", " + c + " is " + want;
        x.test(3, 0, want);
        x.test(3, 0, want + 1);
        x.test(3, 0, want - 1);
        x.test(3, 0, want ^ 1L << 32);
        x.test(3, 0, want ^ LOW);
        DUE.is(what, x.about(0, 0), 1);
        for (int t = 1; t < 5; t++) {
            DUE.is(what + ", not another", x.about(t, 0), 0);
        }
    }

    private static void passes(String what, MutantRows x, int root, long input, long wanted) {
        int t = x.test(root, input, wanted);
        DUE.is(what, x.about(t, 0), 1);
    }

    private static void number() {
        DUE.by("Terms", "0 NUMBER: a.");
        long[] numbers = {0, -1, 1L << 32, LOW, BIG};
        for (long n : numbers) {
            MutantRows x = Built.ofThree(3, n, 0, 0);
            passes("NUMBER " + n, x, 0, 9, n);
            passes("as a part", x, 3, 9, n);
        }
    }

    private static void input() {
        DUE.by("Terms", "1 INPUT: the TEST's.");
        MutantRows x = new MutantRows();
        x.node(1, 77, 0, 0);
        long[] inputs = {0, -1, 1L << 32, LOW, BIG};
        for (long i : inputs) {
            passes("INPUT " + i, x, 0, i, i);
        }
        DUE.is("the first TEST's isn't the latest", x.about(0, 0), 1);
    }

    private static void accOutsideOfAll() {
        DUE.by("Terms", "2 ACC: that of the innermost LOOP that is worked out just then; 0 outside of all.");
        MutantRows x = Built.counting();
        passes("no LOOP at all", x, 1, 5, 0);
        int behind = x.node(3, 4, 1, 0);
        passes("behind a LOOP", x, behind, 5, 5);
        int before = x.node(3, 1, 4, 0);
        passes("before a LOOP", x, before, 5, 5);
    }

    private static void accBehindCutLoops() {
        DUE.by("Terms", "0 outside of all");
        MutantRows x = Built.counting();
        DUE.is("a TEST that is cut", x.test(4, 900, 900), 0);
        DUE.is("in its LOOP", x.about(0, 0), -2);
        passes("the next TEST's ACC", x, 1, 5, 0);
        x.test(4, 3, 3);
        x.make(4);
        DUE.is("a RUN that is cut", x.run(0, 3000), 2);
        passes("the next TEST's ACC behind it", x, 1, 5, 0);
    }

    private static void accOfTheInnermost() {
        DUE.by("Terms", "that of the innermost LOOP that is worked out just then");
        MutantRows x = new MutantRows();
        x.node(2, 0, 0, 0);
        x.node(0, 2, 0, 0);
        x.node(3, 0, 1, 0);
        x.node(0, 5, 0, 0);
        int inner = x.node(9, 3, 2, 0);
        int body = x.node(3, inner, 0, 0);
        x.node(0, 15, 0, 0);
        int outer = x.node(9, 6, body, 0);
        passes("the inner one makes 6 each time, then the outer ACC is there again", x, outer, 0, 18);
        int asEnd = x.node(9, inner, 2, 0);
        passes("a LOOP as the end of a LOOP", x, asEnd, 0, 6);
    }

    private static void additions() {
        DUE.by("Terms", "3 ADD, 4 SUB, 5 MUL: of the NODES a and b");
        worksOutAs(3, 5, 8, 99, 13);
        worksOutAs(3, 5, -5, 99, 0);
        worksOutAs(4, 5, 8, 99, -3);
        worksOutAs(4, 8, 5, 99, 3);
        worksOutAs(5, 5, -8, 99, -40);
        worksOutAs(5, 0, BIG, 99, 0);
    }

    private static void aComesFirst() {
        DUE.by("Terms", "(a is worked out first)");
        for (int kind = 3; kind <= 5; kind++) {
            MutantRows x = Built.endless();
            x.node(0, 5, 0, 0);
            x.test(x.node(kind, 2, 3, 0), 0, 5);
            x.test(x.node(kind, 3, 2, 0), 0, 5);
            DUE.is("a has no end: b isn't begun, kind " + kind, x.about(0, 2), 4);
            DUE.is("b has no end: a was before it, kind " + kind, x.about(1, 2), 5);
        }
    }

    private static void less() {
        DUE.by("Terms", "6 LESS: 1 if a is below b, else 0.");
        worksOutAs(6, 7, 8, 99, 1);
        worksOutAs(6, 8, 8, 99, 0);
        worksOutAs(6, 9, 8, 99, 0);
        worksOutAs(6, -1, 0, 99, 1);
        worksOutAs(6, 0, -1, 99, 0);
        worksOutAs(6, 1, 1L << 32, 99, 1);
        worksOutAs(6, LOW, BIG, 99, 1);
        worksOutAs(6, BIG, LOW, 99, 0);
        worksOutAs(6, BIG, BIG, 99, 0);
        worksOutAs(6, LOW, LOW, 99, 0);
    }

    private static void equal() {
        DUE.by("Terms", "7 EQUAL: 1 if they are the same, else 0.");
        worksOutAs(7, 8, 8, 99, 1);
        worksOutAs(7, 8, 9, 99, 0);
        worksOutAs(7, 8, 7, 99, 0);
        worksOutAs(7, 8, -8, 99, 0);
        worksOutAs(7, 0, 1L << 32, 99, 0);
        worksOutAs(7, LOW, LOW, 99, 1);
        worksOutAs(7, BIG, LOW, 99, 0);
    }

    private static void choose() {
        DUE.by("Terms", "8 CHOOSE: a is worked out: if it isn't 0, b is it, else c.");
        worksOutAs(8, 0, 20, 30, 30);
        long[] notZero = {1, -1, 2, 1L << 32, LOW, BIG};
        for (long a : notZero) {
            worksOutAs(8, a, 20, 30, 20);
        }
    }

    private static void chooseWorksOutOne() {
        DUE.by("Terms", "if it isn't 0, b is it, else c");
        MutantRows x = new MutantRows();
        x.node(1, 0, 0, 0);
        x.node(0, 4, 0, 0);
        x.node(3, 1, 1, 0);
        x.node(8, 0, 1, 2);
        x.test(3, 1, 4);
        x.test(3, 0, 8);
        DUE.is("steps with b", x.about(0, 1), 3);
        DUE.is("covered with b", x.about(0, 2), 3);
        DUE.is("steps with c", x.about(1, 1), 5);
        DUE.is("covered with c", x.about(1, 2), 4);
    }

    private static void loopBeginsWithZero() {
        DUE.by("Terms", "9 LOOP: ACC is 0 at first");
        MutantRows x = Built.counting();
        passes("no turn, so it is 0", x, 4, -5, 0);
        int twice = x.node(3, 4, 4, 0);
        passes("again at the second time", x, twice, 3, 6);
        DUE.is("the second time takes as many steps", x.about(1, 1), 1 + 2 * (2 + 4 * 3));
        int inside = x.node(9, 4, 4, 0);
        passes("also inside of another one", x, inside, 3, 3);
        DUE.is("it counts from 0 each time", x.about(2, 1), 1 + 3 * (2 + 4 * 3));
    }

    private static void loopGoesOnWhileBelow() {
        DUE.by("Terms", "as long as ACC is below that, b is worked out");
        MutantRows x = Built.counting();
        long[] noTurn = {0, -1, LOW};
        for (int i = 0; i < noTurn.length; i++) {
            passes("up to " + noTurn[i], x, 4, noTurn[i], 0);
            DUE.is("itself and the end", x.about(i, 1), 2);
            DUE.is("b isn't worked out", x.about(i, 2), 2);
        }
        passes("one turn", x, 4, 1, 1);
        DUE.is("one turn's steps", x.about(3, 1), 6);
        passes("4 isn't below 4", x, 4, 4, 4);
        DUE.is("four turns' steps", x.about(4, 1), 18);
    }

    private static void loopEndsAnew() {
        DUE.by("Terms", "ACC becomes it, and a is worked out anew");
        MutantRows x = new MutantRows();
        x.node(1, 0, 0, 0);
        x.node(2, 0, 0, 0);
        x.node(0, 3, 0, 0);
        x.node(3, 1, 2, 0);
        x.node(6, 1, 0, 0);
        int loop = x.node(9, 4, 3, 0);
        passes("0 is below (0 < 2), 3 isn't below (3 < 2)", x, loop, 2, 3);
        DUE.is("the end is worked out twice", x.about(0, 1), 1 + 3 + 3 + 3);
        int moving = x.node(4, 0, 1, 0);
        int falling = x.node(9, moving, 3, 0);
        passes("ends 7, 4 and 1 for 0, 3 and 6", x, falling, 7, 6);
    }

    private static void loopIsAcc() {
        DUE.by("Terms", "it is ACC then (a and b see this ACC)");
        MutantRows x = Built.counting();
        x.change(2, 3);
        passes("0, 3, 6, 9: behind 7, not 7 itself", x, 4, 7, 9);
        int seen = x.node(9, 1, 3, 0);
        passes("as end it is never below itself", x, seen, 7, 0);
    }

    private static void numbersWrapAround() {
        DUE.by("Terms", "Numbers have 64 bits (modulo 2 to the 64, with signs).");
        worksOutAs(3, BIG, 1, 0, LOW);
        worksOutAs(3, LOW, -1, 0, BIG);
        worksOutAs(3, LOW, LOW, 0, 0);
        worksOutAs(3, Integer.MAX_VALUE, 1, 0, 1L << 31);
        worksOutAs(4, LOW, 1, 0, BIG);
        worksOutAs(4, BIG, -1, 0, LOW);
        worksOutAs(4, 0, LOW, 0, LOW);
        worksOutAs(5, BIG, 2, 0, -2);
        worksOutAs(5, LOW, -1, 0, LOW);
        worksOutAs(5, 1L << 32, 1L << 32, 0, 0);
        worksOutAs(5, 1L << 32, 1L << 31, 0, LOW);
        worksOutAs(5, BIG, BIG, 0, 1);
    }

    private static void loopsWrapAround() {
        DUE.by("Terms", "modulo 2 to the 64");
        MutantRows x = new MutantRows();
        x.node(0, BIG, 0, 0);
        x.node(2, 0, 0, 0);
        x.node(0, 1L << 62, 0, 0);
        x.node(3, 1, 2, 0);
        x.node(9, 0, 3, 0);
        x.test(4, 0, 0);
        DUE.is("by 2 to the 62 it comes around for ever", x.about(0, 0), -2);
        DUE.is("to its end by itself", x.change(2, BIG), 0);
        passes("in one turn", x, 4, 0, BIG);
    }

    private static void signs() {
        DUE.by("Terms", "with signs");
        MutantRows x = new MutantRows();
        x.node(1, 0, 0, 0);
        x.node(0, 5, 0, 0);
        x.node(6, 0, 1, 0);
        x.node(9, 0, 1, 0);
        passes("-1 is below 5", x, 2, -1, 1);
        passes("the lowest is below 5", x, 2, LOW, 1);
        passes("the highest isn't", x, 2, BIG, 0);
        passes("0 isn't below -1 in a LOOP", x, 3, -1, 0);
        passes("nor below the lowest", x, 3, LOW, 0);
    }
}
