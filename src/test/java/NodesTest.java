/** Promises 1 and 2: a new object and node. What the kinds of NODES are is in KindsTest. */
public final class NodesTest {
    private static final Due DUE = new Due("NodesTest");

    public static void main(String[] args) {
        noNodes();
        noTests();
        noMutants();
        objectsAreApart();
        callsUpToTheLast();
        numberedFromZero();
        sixtyFour();
        sixtyFourLevels();
        inSeveral();
        newNodes();
        fullOfNodes();
        noSuchKind();
        aIsNotEarlier();
        bIsNotEarlier();
        cIsNotEarlier();
        unusedIsNotLookedAt();
        unusedIsNoPart();
        unusedMakesNoDifference();
        numberIsA();
        DUE.end();
    }

    private static void noNodes() {
        DUE.by("Promise 1", "No NODES");
        MutantRows x = new MutantRows();
        DUE.is("test", x.test(0, 0, 0), -1);
        DUE.is("change", x.change(0, 0), -1);
        DUE.is("ADD of the first NODE", x.node(3, 0, 0, 0), -1);
        DUE.is("the first NODE", x.node(1, 0, 0, 0), 0);
    }

    private static void noTests() {
        DUE.by("Promise 1", "no TESTS");
        MutantRows x = new MutantRows();
        for (int what = 0; what < 3; what++) {
            DUE.is("about(0, " + what + ")", x.about(0, what), -1);
        }
        x.node(0, 5, 0, 0);
        DUE.is("distance", x.distance(0, 0), -1);
        DUE.is("none passes", x.change(0, 6), 0);
        DUE.is("the first TEST", x.test(0, 0, 6), 0);
    }

    private static void noMutants() {
        DUE.by("Promise 1", "no MUTANTS");
        MutantRows x = new MutantRows();
        for (int kind = 0; kind < 6; kind++) {
            DUE.is("make(" + kind + ")", x.make(kind), 0);
        }
        for (int what = 0; what < 5; what++) {
            DUE.is("mutant(0, " + what + ")", x.mutant(0, what), -1);
        }
        DUE.is("run", x.run(0, 10), -1);
        DUE.is("order", x.order(0, 0), -1);
        DUE.is("miss", x.miss(0), -1);
        DUE.is("sample of 1", x.sample(1, 1), false);
        for (int side = 0; side < 3; side++) {
            DUE.is("score(-1, " + side + ")", x.score(-1, side), 0);
        }
    }

    private static void objectsAreApart() {
        DUE.by("Promise 1", "No NODES, no TESTS, no MUTANTS");
        MutantRows x = Built.numbers(3);
        MutantRows y = new MutantRows();
        DUE.is("test on another object", y.test(0, 0, 0), -1);
        DUE.is("mutant on another object", y.mutant(0, 0), -1);
        DUE.is("node on another object", y.node(0, 9, 0, 0), 0);
        DUE.is("test of it", y.test(0, 0, 9), 0);
        DUE.is("the first object's TEST", x.about(0, 0), 1);
        DUE.is("the first object's MUTANT", x.mutant(2, 1), 2);
    }

    private static void callsUpToTheLast() {
        DUE.by("What it is", "An object is used for at most 512 calls after it has been made");
        MutantRows x = Built.tower(0, 1, 64);
        for (int i = 0; i < 24; i++) {
            x.test(63 - i, 0, 64 - i);
        }
        x.make(2);
        x.make(4);
        for (int call = 91; call < 512; call++) {
            DUE.is("call " + call, x.run(call % 100, 500), 1);
        }
        DUE.is("call 512", x.change(0, 0), 0);
        // What it answers is free, but it must not throw, and it must end.
        for (int call = 513; call < 2000; call++) {
            x.run(call % 100, 5000);
            x.node(call % 10, 0, 0, 0);
            x.test(call % 64, call, call);
            x.change(0, call);
            x.sample(call, call % 100);
        }
    }

    private static void numberedFromZero() {
        DUE.by("Terms", "numbered from 0");
        MutantRows x = new MutantRows();
        for (int kind = 0; kind < 10; kind++) {
            DUE.is("kind " + kind, x.node(kind, 0, 1, 2), kind);
        }
    }

    private static void sixtyFour() {
        DUE.by("Terms", "NODES, at most 64");
        MutantRows x = new MutantRows();
        for (int i = 0; i < 64; i++) {
            DUE.is("node " + i, x.node(0, 100 + i, 0, 0), i);
        }
        DUE.is("a TEST of the last one", x.test(63, 0, 163), 0);
        DUE.is("it is the last one's number", x.about(0, 0), 1);
        DUE.is("it covers one", x.about(0, 2), 1);
        DUE.is("a TEST of the first one", x.test(0, 0, 100), 1);
        DUE.is("MUTANTS at both", x.make(0), 2);
        DUE.is("the first one's", x.mutant(0, 1), 0);
        DUE.is("the last one's", x.mutant(1, 1), 63);
        DUE.is("the last one's TEST", x.order(1, 0), 0);
        DUE.is("none but that", x.order(1, 1), -1);
        DUE.is("the last one changes", x.change(63, 5), 1);
        DUE.is("there is no other", x.test(64, 0, 0), -1);
    }

    private static void sixtyFourLevels() {
        DUE.by("Terms", "NODES, at most 64");
        MutantRows x = new MutantRows();
        x.node(0, 0, 0, 0);
        for (int i = 1; i < 64; i++) {
            int kind = new int[] {3, 8, 9}[i % 3];
            x.node(kind, kind == 8 ? 0 : i - 1, 0, i - 1);
        }
        x.test(63, 0, 0);
        DUE.is("64 levels", x.about(0, 0), 1);
        DUE.is("21 ADDs and CHOOSEs take two steps each, LOOPs one", x.about(0, 1), 42 + 42 + 21 + 1);
        DUE.is("all are covered", x.about(0, 2), 64);
        MutantRows y = new MutantRows();
        y.node(0, 1, 0, 0);
        for (int i = 1; i < 64; i++) {
            y.node(3, i - 1, i - 1, 0);
        }
        y.test(63, 0, 0);
        DUE.is("2 to the 64 steps are cut", y.about(0, 0), -2);
        DUE.is("64 are covered", y.about(0, 2), 64);
    }

    private static void inSeveral() {
        DUE.by("Terms", "are of earlier ones (one may be there in several)");
        MutantRows x = new MutantRows();
        x.node(1, 0, 0, 0);
        DUE.is("three times in one", x.node(8, 0, 0, 0), 1);
        DUE.is("twice in another", x.node(5, 0, 0, 0), 2);
        DUE.is("both of them and it", x.node(8, 0, 1, 2), 3);
        DUE.is("sum", x.node(3, 3, 2, 0), 4);
        x.test(4, 7, 56);
        DUE.is("7 + 7 * 7", x.about(0, 0), 1);
        DUE.is("one is covered once", x.about(0, 2), 5);
        DUE.is("but worked out each time", x.about(0, 1), 1 + 2 + 3 + 3);
    }

    private static void newNodes() {
        DUE.by("Promise 2", "A new NODE: its number");
        MutantRows x = new MutantRows();
        DUE.is("first", x.node(1, 0, 0, 0), 0);
        DUE.is("the same again is another", x.node(1, 0, 0, 0), 1);
        DUE.is("behind a refused one", x.node(10, 0, 0, 0) + x.node(1, 0, 0, 0), -1 + 2);
        x.test(0, 0, 0);
        x.make(0);
        DUE.is("behind other calls", x.node(3, 0, 2, 0), 3);
    }

    private static void fullOfNodes() {
        DUE.by("Promise 2", "NONE if there are 64");
        MutantRows x = new MutantRows();
        DUE.is("refused ones don't count", x.node(-1, 0, 0, 0), -1);
        for (int i = 0; i < 63; i++) {
            x.node(0, i, 0, 0);
        }
        DUE.is("the 64th", x.node(3, 62, 61, 0), 63);
        for (int kind = 0; kind < 10; kind++) {
            DUE.is("a 65th of kind " + kind, x.node(kind, 0, 0, 0), -1);
        }
        x.test(63, 0, 62 + 61);
        x.test(0, 0, 0);
        DUE.is("the last one is what it was", x.about(0, 0), 1);
        DUE.is("the first one is what it was", x.about(1, 0), 1);
    }

    private static void noSuchKind() {
        DUE.by("Promise 2", "no such kind");
        MutantRows x = new MutantRows();
        x.node(1, 0, 0, 0);
        for (int kind : Built.outside(10)) {
            DUE.is("kind " + kind, x.node(kind, 0, 0, 0), -1);
        }
        DUE.is("nothing came by them", x.node(9, 0, 0, 0), 1);
    }

    private static void aIsNotEarlier() {
        DUE.by("Promise 2", "or what it is of isn't earlier");
        MutantRows x = new MutantRows();
        for (int kind = 3; kind < 10; kind++) {
            DUE.is("none is there yet, kind " + kind, x.node(kind, 0, 0, 0), -1);
        }
        x.node(1, 0, 0, 0);
        x.node(1, 0, 0, 0);
        long[] wrong = {2, 3, -1, 64, 1L << 32, (1L << 32) + 1, -(1L << 32), Built.LOW, Built.BIG};
        for (int kind = 3; kind < 10; kind++) {
            for (long a : wrong) {
                DUE.is("a = " + a + ", kind " + kind, x.node(kind, a, 0, 0), -1);
            }
        }
        DUE.is("a is the last one", x.node(3, 1, 0, 0), 2);
    }

    private static void bIsNotEarlier() {
        DUE.by("Promise 2", "or what it is of isn't earlier");
        MutantRows x = new MutantRows();
        x.node(1, 0, 0, 0);
        x.node(1, 0, 0, 0);
        for (int kind = 3; kind < 10; kind++) {
            for (int b : Built.outside(2)) {
                DUE.is("b = " + b + ", kind " + kind, x.node(kind, 0, b, 0), -1);
            }
        }
        DUE.is("b is the last one", x.node(3, 0, 1, 0), 2);
    }

    private static void cIsNotEarlier() {
        DUE.by("Promise 2", "or what it is of isn't earlier");
        MutantRows x = new MutantRows();
        x.node(1, 0, 0, 0);
        x.node(1, 0, 0, 0);
        for (int c : Built.outside(2)) {
            DUE.is("c = " + c, x.node(8, 0, 0, c), -1);
        }
        DUE.is("c is the last one", x.node(8, 0, 0, 1), 2);
    }

    private static void unusedIsNotLookedAt() {
        DUE.by("Promise 2", "what a kind doesn't use counts for nothing");
        MutantRows x = new MutantRows();
        DUE.is("b, c of NUMBER", x.node(0, 7, -5, 99), 0);
        DUE.is("a, b, c of INPUT", x.node(1, Built.BIG, -5, 99), 1);
        DUE.is("a, b, c of ACC", x.node(2, Built.LOW, Integer.MIN_VALUE, Integer.MAX_VALUE), 2);
        for (int kind = 3; kind < 8; kind++) {
            DUE.is("c of kind " + kind, x.node(kind, 0, 0, -7), kind);
        }
        DUE.is("c of LOOP", x.node(9, 0, 0, 1000), 8);
    }

    private static void unusedIsNoPart() {
        DUE.by("Promise 2", "what a kind doesn't use counts for nothing");
        MutantRows x = new MutantRows();
        x.node(1, 0, 0, 0);
        x.node(0, 7, 0, 0);
        x.node(1, 1, 1, 1);
        x.node(3, 0, 2, 1);
        x.node(9, 0, 2, 1);
        x.test(2, -3, -3);
        x.test(3, -3, -6);
        x.test(4, -3, 0);
        for (int t = 0; t < 3; t++) {
            DUE.is("passes", x.about(t, 0), 1);
            DUE.is("it isn't of the unused one", x.distance(t, 1), -1);
        }
        DUE.is("the INPUT's a", x.distance(0, 0), -1);
        DUE.is("a of ADD is used", x.distance(1, 0), 1);
        DUE.is("b of LOOP is used", x.distance(2, 2), 1);
    }

    private static void unusedMakesNoDifference() {
        DUE.by("Promise 2", "what a kind doesn't use counts for nothing");
        int[][] pairs = {{0, 7, 1, 2}, {1, 3, 4, 5}, {2, 6, 7, 8}};
        for (int[] p : pairs) {
            MutantRows x = new MutantRows();
            x.node(0, 0, 0, 0);
            x.node(p[0], p[1], p[2], p[3]);
            x.node(p[0], p[0] == 0 ? p[1] : p[1] + 1, p[2] + 1, p[3] + 1);
            x.node(4, 1, 0, 0);
            x.node(4, 2, 0, 1);
            x.node(8, 0, 3, 4);
            x.test(5, 0, p[0] == 0 ? 7 : 0);
            x.make(3);
            DUE.is("built alike but for the unused, kind " + p[0], x.mutant(0, 4), 1);
        }
    }

    private static void numberIsA() {
        DUE.by("Promise 2", "NUMBER: a is the number");
        long[] numbers = {0, 1, -1, 64, 1L << 32, Built.LOW, Built.BIG};
        MutantRows x = new MutantRows();
        for (int i = 0; i < numbers.length; i++) {
            DUE.is("NUMBER " + numbers[i], x.node(0, numbers[i], 0, 0), i);
            x.test(i, 5, numbers[i]);
            DUE.is("it is that", x.about(i, 0), 1);
        }
    }
}
