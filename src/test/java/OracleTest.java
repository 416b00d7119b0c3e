import java.util.ArrayDeque;
import java.util.ArrayList;
import java.util.Comparator;
import java.util.HashMap;
import java.util.HashSet;
import java.util.List;
import java.util.Map;
import java.util.Random;
import java.util.Set;

/** Random runs of calls, compared with a second, slow writing-down of the document. */
public final class OracleTest {
    private static final Due DUE = new Due("OracleTest");
    private static final int RUNS = 4000;
    // What later calls answer is free.
    private static final int CALLS = 512;
    private static final int CALLS_OF_MOVES = 440;

    public static void main(String[] args) {
        for (int seed = 0; seed < RUNS && DUE.wrong() < 10; seed++) {
            new Run(seed).play();
        }
        DUE.end();
    }

    private static final class CutException extends RuntimeException {
        private static final long serialVersionUID = 1L;
    }

    private static final class Node {
        int kind;
        long number;
        List<Integer> parts = new ArrayList<>();
    }

    private static final class Trial {
        int root;
        long input;
        long wanted;
        int state;
        int steps;
        Set<Integer> covered = new HashSet<>();
    }

    private static final class Mutant {
        int kind;
        int node;
        int outcome = -1;
        int ender = -1;
    }

    /** The document once more, by its words, with the whole library. */
    private static final class Oracle {
        final List<Node> nodes = new ArrayList<>();
        final List<Trial> trials = new ArrayList<>();
        final List<Mutant> mutants = new ArrayList<>();
        List<Integer> sample = new ArrayList<>();

        int steps;
        int bound;
        Set<Integer> covered;
        ArrayDeque<Long> accs;

        boolean isNode(long n) {
            return n >= 0 && n < nodes.size();
        }

        int node(int kind, long a, int b, int c) {
            if (nodes.size() == 64 || kind < 0 || kind > 9) {
                return -1;
            }
            Node made = new Node();
            made.kind = kind;
            if (kind == 0) {
                made.number = a;
            }
            if (kind >= 3) {
                if (!isNode(a) || !isNode(b) || kind == 8 && !isNode(c)) {
                    return -1;
                }
                made.parts.add((int) a);
                made.parts.add(b);
                if (kind == 8) {
                    made.parts.add(c);
                }
            }
            nodes.add(made);
            return nodes.size() - 1;
        }

        long value(int n, long input, Mutant m) {
            if (steps + 1 > bound) {
                throw new CutException();
            }
            steps++;
            covered.add(n);
            Node at = nodes.get(n);
            int change = m != null && m.node == n ? m.kind : -1;
            if (at.kind == 0) {
                return change == 0 ? at.number + 1 : at.number;
            }
            if (at.kind == 1) {
                return input;
            }
            if (at.kind == 2) {
                return accs.isEmpty() ? 0 : accs.peek();
            }
            if (at.kind == 8) {
                boolean yes = value(at.parts.get(0), input, m) != 0;
                if (change == 3) {
                    yes = !yes;
                }
                return value(at.parts.get(yes ? 1 : 2), input, m);
            }
            if (at.kind == 9) {
                accs.push(0L);
                while (accs.peek() < value(at.parts.get(0), input, m)) {
                    long next = value(at.parts.get(1), input, m);
                    accs.pop();
                    accs.push(next);
                }
                return accs.pop();
            }
            long a = value(at.parts.get(0), input, m);
            if (change == 4) {
                return a;
            }
            long b = value(at.parts.get(1), input, m);
            int kind = change == 2 ? 7 - at.kind : at.kind;
            switch (kind) {
                case 3:
                    return a + b;
                case 4:
                    return a - b;
                case 5:
                    return a * b;
                case 6:
                    return a < b || a == b && change == 1 ? 1 : 0;
                default:
                    return a == b ^ change == 5 ? 1 : 0;
            }
        }

        /** 1 WANTED, 0 not, -2 CUT. */
        int work(Trial t, Mutant m, int withBound) {
            steps = 0;
            bound = withBound;
            covered = new HashSet<>();
            accs = new ArrayDeque<>();
            try {
                return value(t.root, t.input, m) == t.wanted ? 1 : 0;
            } catch (CutException e) {
                return -2;
            }
        }

        void attempt(Trial t) {
            t.state = work(t, null, 3000);
            t.steps = steps;
            t.covered = covered;
        }

        int test(int root, long input, long wanted) {
            if (trials.size() == 24 || !isNode(root)) {
                return -1;
            }
            Trial t = new Trial();
            t.root = root;
            t.input = input;
            t.wanted = wanted;
            attempt(t);
            trials.add(t);
            return trials.size() - 1;
        }

        int about(int test, int what) {
            if (test < 0 || test >= trials.size() || what < 0 || what > 2) {
                return -1;
            }
            Trial t = trials.get(test);
            return what == 0 ? t.state : what == 1 ? t.steps : t.covered.size();
        }

        int make(int kind) {
            if (kind < 0 || kind > 5) {
                return -1;
            }
            List<List<Integer>> fitting = List.of(
                    List.of(0), List.of(6), List.of(3, 4), List.of(8), List.of(3, 4, 5), List.of(7));
            int came = 0;
            for (int n = 0; n < nodes.size(); n++) {
                int node = n;
                boolean there = mutants.stream().anyMatch(m -> m.kind == kind && m.node == node);
                boolean seen = trials.stream().anyMatch(t -> t.state == 1 && t.covered.contains(node));
                if (fitting.get(kind).contains(nodes.get(n).kind) && seen && !there && mutants.size() < 100) {
                    Mutant made = new Mutant();
                    made.kind = kind;
                    made.node = n;
                    mutants.add(made);
                    came++;
                }
            }
            return came;
        }

        boolean isNumber(int n, long number) {
            return nodes.get(n).kind == 0 && nodes.get(n).number == number;
        }

        boolean built(int x, int y, Map<Integer, Boolean> known) {
            Boolean before = known.get(x * 64 + y);
            if (before != null) {
                return before;
            }
            Node a = nodes.get(x);
            Node b = nodes.get(y);
            boolean same = a.kind == b.kind && (a.kind != 0 || a.number == b.number);
            for (int i = 0; same && i < a.parts.size(); i++) {
                same = built(a.parts.get(i), b.parts.get(i), known);
            }
            known.put(x * 64 + y, same);
            return same;
        }

        boolean alike(Mutant m) {
            Node at = nodes.get(m.node);
            List<Integer> p = at.parts;
            switch (m.kind) {
                case 1:
                    return nodes.get(p.get(0)).kind == 0 && nodes.get(p.get(1)).kind == 0
                            && nodes.get(p.get(0)).number != nodes.get(p.get(1)).number;
                case 2:
                    return isNumber(p.get(1), 0);
                case 3:
                    return built(p.get(1), p.get(2), new HashMap<>());
                case 4:
                    return isNumber(p.get(1), at.kind == 5 ? 1 : 0);
                default:
                    return false;
            }
        }

        boolean isMutant(int i) {
            return i >= 0 && i < mutants.size();
        }

        int mutant(int i, int what) {
            if (!isMutant(i) || what < 0 || what > 4) {
                return -1;
            }
            Mutant m = mutants.get(i);
            return new int[] {m.kind, m.node, m.outcome, m.ender, alike(m) ? 1 : 0}[what];
        }

        int distance(int test, int node) {
            if (test < 0 || test >= trials.size() || !isNode(node)) {
                return -1;
            }
            Map<Integer, Integer> far = new HashMap<>();
            ArrayDeque<Integer> open = new ArrayDeque<>();
            far.put(trials.get(test).root, 0);
            open.add(trials.get(test).root);
            while (!open.isEmpty()) {
                int n = open.remove();
                for (int p : nodes.get(n).parts) {
                    if (far.putIfAbsent(p, far.get(n) + 1) == null) {
                        open.add(p);
                    }
                }
            }
            return far.getOrDefault(node, -1);
        }

        List<Integer> line(Mutant m) {
            List<Integer> line = new ArrayList<>();
            for (int t = 0; t < trials.size(); t++) {
                if (trials.get(t).state == 1 && trials.get(t).covered.contains(m.node)) {
                    line.add(t);
                }
            }
            line.sort(Comparator.<Integer>comparingInt(t -> distance(t, m.node)).thenComparingInt(t -> t));
            return line;
        }

        int run(int mutant, int withBound) {
            if (!isMutant(mutant) || withBound < 1 || withBound > 5000) {
                return -1;
            }
            Mutant m = mutants.get(mutant);
            m.outcome = 0;
            m.ender = -1;
            for (int t : line(m)) {
                int state = work(trials.get(t), m, withBound);
                if (state != 1) {
                    m.outcome = state == 0 ? 1 : 2;
                    m.ender = t;
                    break;
                }
            }
            return m.outcome;
        }

        int order(int mutant, int i) {
            if (!isMutant(mutant)) {
                return -1;
            }
            List<Integer> line = line(mutants.get(mutant));
            return i >= 0 && i < line.size() ? line.get(i) : -1;
        }

        int change(int node, long v) {
            if (!isNode(node) || nodes.get(node).kind != 0) {
                return -1;
            }
            if (nodes.get(node).number != v) {
                nodes.get(node).number = v;
                for (Trial t : trials) {
                    Set<Integer> before = t.covered;
                    attempt(t);
                    if (before.contains(node) || t.covered.contains(node)) {
                        for (Mutant m : mutants) {
                            if (before.contains(m.node) || t.covered.contains(m.node)) {
                                m.outcome = -1;
                                m.ender = -1;
                            }
                        }
                    }
                }
            }
            return (int) trials.stream().filter(t -> t.state == 1).count();
        }

        boolean sample(long seed, int n) {
            if (n < 0 || n > mutants.size()) {
                return false;
            }
            List<Integer> row = new ArrayList<>();
            for (int i = 0; i < mutants.size(); i++) {
                row.add(i);
            }
            long x = seed;
            for (int i = 0; i < n; i++) {
                x = x * 6364136223846793005L + 1442695040888963407L;
                java.util.Collections.swap(row, i, i + (int) Long.remainderUnsigned(x >>> 33, row.size() - i));
            }
            sample = row.subList(0, n);
            return true;
        }

        int sampled(int i) {
            return i >= 0 && i < sample.size() ? sample.get(i) : -1;
        }

        boolean missed(Mutant m) {
            return m.outcome == 0 && !alike(m);
        }

        int score(int kind, int side) {
            if (kind < -1 || kind > 5 || side < 0 || side > 2) {
                return -1;
            }
            return (int) mutants.stream().filter(m -> kind == -1 || m.kind == kind)
                    .filter(m -> side == 0 ? m.outcome > 0 : side == 1 ? m.outcome >= 0 : missed(m)).count();
        }

        int miss(int i) {
            List<Integer> all = new ArrayList<>();
            for (int m = 0; m < mutants.size(); m++) {
                if (missed(mutants.get(m))) {
                    all.add(m);
                }
            }
            return i >= 0 && i < all.size() ? all.get(i) : -1;
        }
    }

    private static final class Run {
        final int seed;
        final Random random;
        final MutantRows x = new MutantRows();
        final Oracle oracle = new Oracle();
        final int growth;
        int calls;

        Run(int seed) {
            this.seed = seed;
            random = new Random(seed);
            growth = 4 + random.nextInt(64);
        }

        void play() {
            for (int i = 0; calls < CALLS_OF_MOVES; i++) {
                if (i < growth || random.nextInt(30) == 0) {
                    callNode();
                } else if (i < growth + 20 || random.nextInt(40) == 0) {
                    callTest();
                } else {
                    callOther();
                }
            }
            while (calls < CALLS) {
                lookAround();
            }
        }

        void due(String call, long got, long want) {
            calls++;
            DUE.is("seed " + seed + ": " + call, got, want);
        }

        int index(int size) {
            return random.nextInt(12) == 0 ? random.nextInt(size + 6) - 3 : random.nextInt(size + 1);
        }

        int within(int size) {
            return size == 0 || random.nextInt(25) == 0 ? index(size) : random.nextInt(size);
        }

        /** Late NODES more often, so that trees grow high. */
        int part() {
            int size = oracle.nodes.size();
            return random.nextInt(3) == 0 ? within(size) : Math.max(size - 1 - random.nextInt(5), within(Math.min(size, 3)));
        }

        long number() {
            int pick = random.nextInt(12);
            return pick == 0 ? random.nextLong() : pick == 1 ? Long.MAX_VALUE : random.nextInt(9) - 3;
        }

        void callNode() {
            int kind = random.nextInt(40) == 0 ? random.nextInt(14) - 2 : random.nextInt(10);
            if (oracle.nodes.size() < 4) {
                kind = oracle.nodes.size() % 3;
            }
            long a = kind == 0 ? number() : part();
            int b = part();
            int c = part();
            due("node(" + kind + ", " + a + ", " + b + ", " + c + ")", x.node(kind, a, b, c), oracle.node(kind, a, b, c));
        }

        void callTest() {
            int root = part();
            long input = number();
            long wanted = number();
            if (oracle.isNode(root) && random.nextInt(6) != 0) {
                wanted = rightAnswer(root, input);
            }
            String call = "test(" + root + ", " + input + ", " + wanted + ")";
            int t = oracle.test(root, input, wanted);
            due(call, x.test(root, input, wanted), t);
            for (int what = 0; what < 3; what++) {
                due(call + ", about " + what, x.about(t, what), oracle.about(t, what));
            }
        }

        long rightAnswer(int root, long input) {
            oracle.steps = 0;
            oracle.bound = 3000;
            oracle.covered = new HashSet<>();
            oracle.accs = new ArrayDeque<>();
            try {
                return oracle.value(root, input, null);
            } catch (CutException e) {
                return 0;
            }
        }

        int bound() {
            int pick = random.nextInt(10);
            return pick == 0 ? random.nextInt(5010) - 4 : pick < 4 ? random.nextInt(40) : 1 + random.nextInt(5000);
        }

        void callOther() {
            int mutants = oracle.mutants.size();
            int m = within(mutants);
            int i = index(6);
            switch (random.nextInt(10)) {
                case 0: {
                    int kind = random.nextInt(15) == 0 ? random.nextInt(9) - 2 : random.nextInt(6);
                    due("make(" + kind + ")", x.make(kind), oracle.make(kind));
                    break;
                }
                case 1:
                case 2:
                case 3: {
                    int bound = bound();
                    due("run(" + m + ", " + bound + ")", x.run(m, bound), oracle.run(m, bound));
                    due("outcome of " + m, x.mutant(m, 2), oracle.mutant(m, 2));
                    due("ender of " + m, x.mutant(m, 3), oracle.mutant(m, 3));
                    break;
                }
                case 4:
                    due("order(" + m + ", " + i + ")", x.order(m, i), oracle.order(m, i));
                    break;
                case 5: {
                    int t = within(oracle.trials.size());
                    int n = within(oracle.nodes.size());
                    due("distance(" + t + ", " + n + ")", x.distance(t, n), oracle.distance(t, n));
                    break;
                }
                case 6:
                    callChange();
                    break;
                case 7: {
                    long s = random.nextLong();
                    int n = index(mutants);
                    due("sample(" + s + ", " + n + ")", x.sample(s, n) ? 1 : 0, oracle.sample(s, n) ? 1 : 0);
                    break;
                }
                case 8: {
                    int kind = random.nextInt(10) - 2;
                    int side = random.nextInt(5) - 1;
                    due("score(" + kind + ", " + side + ")", x.score(kind, side), oracle.score(kind, side));
                    break;
                }
                default:
                    due("miss(" + i + ")", x.miss(i), oracle.miss(i));
                    due("sampled(" + i + ")", x.sampled(i), oracle.sampled(i));
            }
        }

        void callChange() {
            List<Integer> numbers = new ArrayList<>();
            for (int n = 0; n < oracle.nodes.size(); n++) {
                if (oracle.nodes.get(n).kind == 0) {
                    numbers.add(n);
                }
            }
            int n = numbers.isEmpty() || random.nextInt(8) == 0
                    ? index(oracle.nodes.size()) : numbers.get(random.nextInt(numbers.size()));
            long v = number();
            due("change(" + n + ", " + v + ")", x.change(n, v), oracle.change(n, v));
            due("known behind it", x.score(-1, 1), oracle.score(-1, 1));
            for (int i = 0; i < 3; i++) {
                lookAtTest();
                lookAtMutant();
            }
        }

        void lookAtTest() {
            int t = within(oracle.trials.size());
            int what = within(3);
            due("about(" + t + ", " + what + ")", x.about(t, what), oracle.about(t, what));
        }

        void lookAtMutant() {
            int m = within(oracle.mutants.size());
            int what = within(5);
            due("mutant(" + m + ", " + what + ")", x.mutant(m, what), oracle.mutant(m, what));
        }

        void lookAround() {
            int m = within(oracle.mutants.size());
            int i = index(24);
            switch (random.nextInt(5)) {
                case 0:
                    lookAtTest();
                    break;
                case 1:
                    lookAtMutant();
                    break;
                case 2:
                    due("order(" + m + ", " + i + ")", x.order(m, i), oracle.order(m, i));
                    break;
                case 3:
                    due("miss(" + m + ")", x.miss(m), oracle.miss(m));
                    break;
                default:
                    due("sampled(" + m + ")", x.sampled(m), oracle.sampled(m));
            }
        }
    }
}
