/**
 * Mutants of trees that work out numbers, and the tests that run them. The terms in capitals are
 * those of the document. All rows are made in the constructors and used again by every call.
 */
public final class MutantRows {
    public static final int NONE = -1;

    private static final int NODE_LIMIT = 64;
    private static final int TEST_LIMIT = 24;
    private static final int MUTANT_LIMIT = 100;
    private static final int TRY_BOUND = 3000;
    private static final int RUN_BOUND_LIMIT = 5000;

    private static final int NUMBER = 0;
    private static final int INPUT = 1;
    private static final int ACC = 2;
    private static final int ADD = 3;
    private static final int SUB = 4;
    private static final int MUL = 5;
    private static final int LESS = 6;
    private static final int EQUAL = 7;
    private static final int CHOOSE = 8;
    private static final int LOOP = 9;

    private static final int ONE_MORE = 0;
    private static final int LESS_OR_SAME = 1;
    private static final int SIGN_TURNED = 2;
    private static final int BRANCHES_SWAPPED = 3;
    private static final int FIRST_ALONE = 4;
    private static final int EQUAL_TURNED = 5;
    private static final int KIND_COUNT = 6;

    private static final int SURVIVED = 0;
    private static final int KILLED = 1;
    private static final int CUT = 2;

    private static final int FAILS = 0;
    private static final int PASSES = 1;
    private static final int TRIED_AND_CUT = -2;

    private static final int SIDE_CAUGHT = 0;
    private static final int SIDE_KNOWN = 1;
    private static final int SIDE_MISSED = 2;

    private static final long SAMPLE_FACTOR = 6364136223846793005L;
    private static final long SAMPLE_STEP = 1442695040888963407L;

    private final Trees trees;
    private final Trials trials;
    private final Mutants mutants;
    private final Lineup lineup;
    private final Draw draw;

    public MutantRows() {
        trees = new Trees();
        trials = new Trials(trees);
        mutants = new Mutants(trees);
        lineup = new Lineup(trees, trials);
        draw = new Draw();
    }

    public int node(int kind, long a, int b, int c) {
        return trees.grow(kind, a, b, c);
    }

    public int test(int root, long input, long wanted) {
        if (!trees.has(root)) {
            return NONE;
        }
        return trials.add(root, input, wanted);
    }

    public int about(int test, int what) {
        if (!trials.has(test)) {
            return NONE;
        }
        switch (what) {
            case 0:
                return trials.stateOf(test);
            case 1:
                return trials.stepsOf(test);
            case 2:
                return Long.bitCount(trials.coveredBy(test));
            default:
                return NONE;
        }
    }

    public int make(int kind) {
        if (!isMutantKind(kind)) {
            return NONE;
        }
        long covered = trials.coveredByPassing();
        int before = mutants.size();
        for (int node = 0; node < trees.size(); node++) {
            if ((covered & bit(node)) != 0 && fits(kind, trees.kindOf(node))) {
                mutants.add(kind, node);
            }
        }
        return mutants.size() - before;
    }

    public int mutant(int i, int what) {
        if (!mutants.has(i)) {
            return NONE;
        }
        switch (what) {
            case 0:
                return mutants.kindOf(i);
            case 1:
                return mutants.nodeOf(i);
            case 2:
                return mutants.outcomeOf(i);
            case 3:
                return mutants.enderOf(i);
            case 4:
                return mutants.isAlike(i) ? 1 : 0;
            default:
                return NONE;
        }
    }

    public int run(int mutant, int bound) {
        if (!mutants.has(mutant) || bound < 1 || bound > RUN_BOUND_LIMIT) {
            return NONE;
        }
        int kind = mutants.kindOf(mutant);
        int node = mutants.nodeOf(mutant);
        lineup.gather(node);
        int outcome = SURVIVED;
        int ender = NONE;
        for (int i = 0; i < lineup.size() && outcome == SURVIVED; i++) {
            outcome = trials.judge(lineup.at(i), kind, node, bound);
            ender = outcome == SURVIVED ? NONE : lineup.at(i);
        }
        mutants.settle(mutant, outcome, ender);
        return outcome;
    }

    public int order(int mutant, int i) {
        if (!mutants.has(mutant)) {
            return NONE;
        }
        lineup.gather(mutants.nodeOf(mutant));
        return lineup.at(i);
    }

    public int distance(int test, int node) {
        if (!trials.has(test) || !trees.has(node)) {
            return NONE;
        }
        return trees.wayBetween(trials.rootOf(test), node);
    }

    public int change(int node, long v) {
        if (!trees.has(node) || trees.kindOf(node) != NUMBER) {
            return NONE;
        }
        if (trees.numberOf(node) != v) {
            trees.renumber(node, v);
            mutants.forget(trials.retry(node));
        }
        return trials.countPassing();
    }

    public boolean sample(long seed, int n) {
        if (n < 0 || n > mutants.size()) {
            return false;
        }
        draw.shuffle(seed, n, mutants.size());
        return true;
    }

    public int sampled(int i) {
        return draw.at(i);
    }

    public int score(int kind, int side) {
        if (kind != NONE && !isMutantKind(kind) || side < SIDE_CAUGHT || side > SIDE_MISSED) {
            return NONE;
        }
        int count = 0;
        for (int i = 0; i < mutants.size(); i++) {
            if ((kind == NONE || kind == mutants.kindOf(i)) && mutants.isOnSide(i, side)) {
                count++;
            }
        }
        return count;
    }

    public int miss(int i) {
        int before = 0;
        for (int m = 0; m < mutants.size(); m++) {
            if (mutants.isOnSide(m, SIDE_MISSED)) {
                if (before == i) {
                    return m;
                }
                before++;
            }
        }
        return NONE;
    }

    private static boolean isMutantKind(int kind) {
        return kind >= 0 && kind < KIND_COUNT;
    }

    /** Whether there are MUTANTS of a KIND for NODES of this kind. */
    private static boolean fits(int kind, int nodeKind) {
        switch (kind) {
            case ONE_MORE:
                return nodeKind == NUMBER;
            case LESS_OR_SAME:
                return nodeKind == LESS;
            case SIGN_TURNED:
                return nodeKind == ADD || nodeKind == SUB;
            case BRANCHES_SWAPPED:
                return nodeKind == CHOOSE;
            case FIRST_ALONE:
                return nodeKind == ADD || nodeKind == SUB || nodeKind == MUL;
            case EQUAL_TURNED:
                return nodeKind == EQUAL;
            default:
                return false;
        }
    }

    /** At most 64 NODES, so that a set of them is one long. */
    private static long bit(int node) {
        return 1L << node;
    }

    /** The NODES. What a NODE is of, its parts, is always earlier than itself. */
    private static final class Trees {
        private final int[] kinds;
        private final long[] numbers;
        private final int[] firsts;
        private final int[] seconds;
        private final int[] thirds;
        private final int[] shapes;
        private final int[] ways;
        private int size;

        Trees() {
            kinds = new int[NODE_LIMIT];
            numbers = new long[NODE_LIMIT];
            firsts = new int[NODE_LIMIT];
            seconds = new int[NODE_LIMIT];
            thirds = new int[NODE_LIMIT];
            shapes = new int[NODE_LIMIT];
            ways = new int[NODE_LIMIT];
            size = 0;
        }

        int size() {
            return size;
        }

        boolean has(int node) {
            return node >= 0 && node < size;
        }

        int kindOf(int node) {
            return kinds[node];
        }

        long numberOf(int node) {
            return numbers[node];
        }

        int firstOf(int node) {
            return firsts[node];
        }

        int secondOf(int node) {
            return seconds[node];
        }

        int thirdOf(int node) {
            return thirds[node];
        }

        boolean isNumber(int node, long number) {
            return kinds[node] == NUMBER && numbers[node] == number;
        }

        int grow(int kind, long a, int b, int c) {
            if (size >= NODE_LIMIT || kind < NUMBER || kind > LOOP) {
                return NONE;
            }
            int parts = partCount(kind);
            if (parts > 0 && !areEarlier(parts, a, b, c)) {
                return NONE;
            }
            int node = size;
            size++;
            kinds[node] = kind;
            numbers[node] = kind == NUMBER ? a : 0;
            firsts[node] = parts > 0 ? (int) a : NONE;
            seconds[node] = parts > 0 ? b : NONE;
            thirds[node] = parts > 2 ? c : NONE;
            shapes[node] = shapeFor(node);
            return node;
        }

        void renumber(int node, long number) {
            numbers[node] = number;
            // Shapes of earlier NODES can't hang on this one.
            for (int n = node; n < size; n++) {
                shapes[n] = shapeFor(n);
            }
        }

        boolean areAlike(int one, int other) {
            return shapes[one] == shapes[other];
        }

        /** The fewest goings from a NODE to a part, or NONE if there is no way. */
        int wayBetween(int root, int node) {
            if (node > root) {
                return NONE;
            }
            for (int n = 0; n < root; n++) {
                ways[n] = NONE;
            }
            ways[root] = 0;
            // Parts are earlier, so each way is final by the time it is gone on from.
            for (int from = root; from > node; from--) {
                if (ways[from] != NONE) {
                    goOnFrom(from);
                }
            }
            return ways[node];
        }

        private void goOnFrom(int from) {
            int way = ways[from] + 1;
            int parts = partCount(kinds[from]);
            if (parts > 0) {
                shorten(firsts[from], way);
                shorten(seconds[from], way);
            }
            if (parts > 2) {
                shorten(thirds[from], way);
            }
        }

        private void shorten(int node, int way) {
            if (ways[node] == NONE || ways[node] > way) {
                ways[node] = way;
            }
        }

        private boolean areEarlier(int parts, long a, int b, int c) {
            return a >= 0 && a < size && has(b) && (parts < 3 || has(c));
        }

        private static int partCount(int kind) {
            if (kind <= ACC) {
                return 0;
            }
            return kind == CHOOSE ? 3 : 2;
        }

        /** The first NODE that is built alike: a walk down both would take 2 to the 64 goings. */
        private int shapeFor(int node) {
            for (int n = 0; n < node; n++) {
                if (kinds[n] == kinds[node] && numbers[n] == numbers[node] && haveAlikeParts(n, node)) {
                    return n;
                }
            }
            return node;
        }

        private boolean haveAlikeParts(int one, int other) {
            int parts = partCount(kinds[one]);
            if (parts == 0) {
                return true;
            }
            return areAlike(firsts[one], firsts[other])
                    && areAlike(seconds[one], seconds[other])
                    && (parts < 3 || areAlike(thirds[one], thirds[other]));
        }
    }

    /** Works out a ROOT within a BOUND, with a MUTANT's change at a NODE or without one. */
    private static final class Worker {
        private final Trees trees;
        private int changeKind;
        private int changedNode;
        private long input;
        private int bound;
        private int steps;
        private boolean cut;
        private long covered;
        private long acc;

        Worker(Trees trees) {
            this.trees = trees;
            changeKind = NONE;
            changedNode = NONE;
        }

        int steps() {
            return steps;
        }

        boolean isCut() {
            return cut;
        }

        long covered() {
            return covered;
        }

        void changeAt(int kind, int node) {
            changeKind = kind;
            changedNode = node;
        }

        void unchange() {
            changeKind = NONE;
            changedNode = NONE;
        }

        /** What the ROOT is; it means nothing if it was CUT. */
        long workOut(int root, long givenInput, int givenBound) {
            input = givenInput;
            bound = givenBound;
            steps = 0;
            cut = false;
            covered = 0;
            acc = 0;
            return worth(root);
        }

        /** Goes at most NODE_LIMIT levels deep, since the parts of a NODE are earlier ones. */
        private long worth(int node) {
            if (steps >= bound) {
                cut = true;
                return 0;
            }
            steps++;
            covered |= bit(node);
            int kind = trees.kindOf(node);
            int change = node == changedNode ? changeKind : NONE;
            switch (kind) {
                case NUMBER:
                    return change == ONE_MORE ? trees.numberOf(node) + 1 : trees.numberOf(node);
                case INPUT:
                    return input;
                case ACC:
                    return acc;
                case CHOOSE:
                    return worthOfChoice(node, change);
                case LOOP:
                    return worthOfLoop(node);
                default:
                    return worthOfTwo(node, kind, change);
            }
        }

        private long worthOfChoice(int node, int change) {
            boolean holds = worth(trees.firstOf(node)) != 0;
            boolean takesSecond = holds != (change == BRANCHES_SWAPPED);
            return worth(takesSecond ? trees.secondOf(node) : trees.thirdOf(node));
        }

        private long worthOfLoop(int node) {
            long outerAcc = acc;
            acc = 0;
            long end = worth(trees.firstOf(node));
            // A turn takes two STEPS at least, so that the BOUND always comes before its own count.
            for (int turn = 0; turn < bound && !cut && acc < end; turn++) {
                acc = worth(trees.secondOf(node));
                end = worth(trees.firstOf(node));
            }
            long result = acc;
            acc = outerAcc;
            return result;
        }

        private long worthOfTwo(int node, int kind, int change) {
            long first = worth(trees.firstOf(node));
            if (change == FIRST_ALONE) {
                return first;
            }
            long second = worth(trees.secondOf(node));
            boolean turned = change == SIGN_TURNED;
            switch (kind) {
                case ADD:
                    return turned ? first - second : first + second;
                case SUB:
                    return turned ? first + second : first - second;
                case MUL:
                    return first * second;
                case LESS:
                    return first < second || change == LESS_OR_SAME && first == second ? 1 : 0;
                default:
                    return (first == second) != (change == EQUAL_TURNED) ? 1 : 0;
            }
        }
    }

    /** The TESTS, with what came of the latest time that each was TRIED. */
    private static final class Trials {
        private final Worker worker;
        private final int[] roots;
        private final long[] inputs;
        private final long[] wanted;
        private final int[] states;
        private final int[] steps;
        private final long[] covered;
        private int size;

        Trials(Trees trees) {
            worker = new Worker(trees);
            roots = new int[TEST_LIMIT];
            inputs = new long[TEST_LIMIT];
            wanted = new long[TEST_LIMIT];
            states = new int[TEST_LIMIT];
            steps = new int[TEST_LIMIT];
            covered = new long[TEST_LIMIT];
            size = 0;
        }

        int size() {
            return size;
        }

        boolean has(int test) {
            return test >= 0 && test < size;
        }

        int rootOf(int test) {
            return roots[test];
        }

        int stateOf(int test) {
            return states[test];
        }

        int stepsOf(int test) {
            return steps[test];
        }

        long coveredBy(int test) {
            return covered[test];
        }

        boolean passesAndCovers(int test, int node) {
            return states[test] == PASSES && (covered[test] & bit(node)) != 0;
        }

        int add(int root, long input, long wantedNumber) {
            if (size >= TEST_LIMIT) {
                return NONE;
            }
            int test = size;
            size++;
            roots[test] = root;
            inputs[test] = input;
            wanted[test] = wantedNumber;
            attempt(test);
            return test;
        }

        /**
         * TRIES the TESTS anew behind a change of a NUMBER. Answers the NODES that were COVERED,
         * before or behind it, by TESTS that COVER the NUMBER. A TEST that didn't come by it goes
         * the same way as before, and one that did comes by it again: so the others are left out.
         */
        long retry(int number) {
            long touched = 0;
            for (int test = 0; test < size; test++) {
                if ((covered[test] & bit(number)) != 0) {
                    touched |= covered[test];
                    attempt(test);
                    touched |= covered[test];
                }
            }
            return touched;
        }

        long coveredByPassing() {
            long all = 0;
            for (int test = 0; test < size; test++) {
                if (states[test] == PASSES) {
                    all |= covered[test];
                }
            }
            return all;
        }

        int countPassing() {
            int count = 0;
            for (int test = 0; test < size; test++) {
                if (states[test] == PASSES) {
                    count++;
                }
            }
            return count;
        }

        /** What a TEST says of a MUTANT; what it COVERS on that way isn't kept. */
        int judge(int test, int kind, int node, int bound) {
            worker.changeAt(kind, node);
            long result = worker.workOut(roots[test], inputs[test], bound);
            worker.unchange();
            if (worker.isCut()) {
                return CUT;
            }
            return result == wanted[test] ? SURVIVED : KILLED;
        }

        private void attempt(int test) {
            long result = worker.workOut(roots[test], inputs[test], TRY_BOUND);
            if (worker.isCut()) {
                states[test] = TRIED_AND_CUT;
            } else {
                states[test] = result == wanted[test] ? PASSES : FAILS;
            }
            steps[test] = worker.steps();
            covered[test] = worker.covered();
        }
    }

    /** The TESTS by which a MUTANT at a NODE is RUN, in their order. */
    private static final class Lineup {
        private final Trees trees;
        private final Trials trials;
        private final int[] line;
        private final int[] distances;
        private int size;

        Lineup(Trees trees, Trials trials) {
            this.trees = trees;
            this.trials = trials;
            line = new int[TEST_LIMIT];
            distances = new int[TEST_LIMIT];
            size = 0;
        }

        int size() {
            return size;
        }

        int at(int i) {
            return i >= 0 && i < size ? line[i] : NONE;
        }

        void gather(int node) {
            size = 0;
            for (int test = 0; test < trials.size(); test++) {
                if (trials.passesAndCovers(test, node)) {
                    insert(test, trees.wayBetween(trials.rootOf(test), node));
                }
            }
        }

        /** TESTS come by their numbers, so a new one goes behind those of the same DISTANCE. */
        private void insert(int test, int distance) {
            int place = size;
            while (place > 0 && distances[place - 1] > distance) {
                line[place] = line[place - 1];
                distances[place] = distances[place - 1];
                place--;
            }
            line[place] = test;
            distances[place] = distance;
            size++;
        }
    }

    /** The MUTANTS and their outcomes. */
    private static final class Mutants {
        private final Trees trees;
        private final int[] kinds;
        private final int[] nodes;
        private final int[] outcomes;
        private final int[] enders;
        private final long[] madeAt;
        private int size;

        Mutants(Trees trees) {
            this.trees = trees;
            kinds = new int[MUTANT_LIMIT];
            nodes = new int[MUTANT_LIMIT];
            outcomes = new int[MUTANT_LIMIT];
            enders = new int[MUTANT_LIMIT];
            madeAt = new long[KIND_COUNT];
            size = 0;
        }

        int size() {
            return size;
        }

        boolean has(int mutant) {
            return mutant >= 0 && mutant < size;
        }

        int kindOf(int mutant) {
            return kinds[mutant];
        }

        int nodeOf(int mutant) {
            return nodes[mutant];
        }

        int outcomeOf(int mutant) {
            return outcomes[mutant];
        }

        int enderOf(int mutant) {
            return enders[mutant];
        }

        /** Adds none that is there already, and none beyond the limit. */
        void add(int kind, int node) {
            if (size >= MUTANT_LIMIT || (madeAt[kind] & bit(node)) != 0) {
                return;
            }
            madeAt[kind] |= bit(node);
            kinds[size] = kind;
            nodes[size] = node;
            settle(size, NONE, NONE);
            size++;
        }

        void settle(int mutant, int outcome, int ender) {
            outcomes[mutant] = outcome;
            enders[mutant] = ender;
        }

        /** Outcomes of MUTANTS at these NODES aren't known any more. */
        void forget(long touched) {
            for (int mutant = 0; mutant < size; mutant++) {
                if ((touched & bit(nodes[mutant])) != 0) {
                    settle(mutant, NONE, NONE);
                }
            }
        }

        boolean isOnSide(int mutant, int side) {
            int outcome = outcomes[mutant];
            switch (side) {
                case SIDE_CAUGHT:
                    return outcome == KILLED || outcome == CUT;
                case SIDE_KNOWN:
                    return outcome != NONE;
                default:
                    return outcome == SURVIVED && !isAlike(mutant);
            }
        }

        /** By the numbers as they are now. */
        boolean isAlike(int mutant) {
            int node = nodes[mutant];
            switch (kinds[mutant]) {
                case LESS_OR_SAME:
                    return isOfDifferentNumbers(node);
                case SIGN_TURNED:
                    return trees.isNumber(trees.secondOf(node), 0);
                case BRANCHES_SWAPPED:
                    return trees.areAlike(trees.secondOf(node), trees.thirdOf(node));
                case FIRST_ALONE:
                    return trees.isNumber(trees.secondOf(node), trees.kindOf(node) == MUL ? 1 : 0);
                default:
                    return false;
            }
        }

        private boolean isOfDifferentNumbers(int node) {
            int first = trees.firstOf(node);
            int second = trees.secondOf(node);
            return trees.kindOf(first) == NUMBER
                    && trees.kindOf(second) == NUMBER
                    && trees.numberOf(first) != trees.numberOf(second);
        }
    }

    /** The latest sample. */
    private static final class Draw {
        private final int[] row;
        private int size;

        Draw() {
            row = new int[MUTANT_LIMIT];
            size = 0;
        }

        int at(int i) {
            return i >= 0 && i < size ? row[i] : NONE;
        }

        /** Draws n of count, where n is at most count, and count at most MUTANT_LIMIT. */
        void shuffle(long seed, int n, int count) {
            for (int i = 0; i < count; i++) {
                row[i] = i;
            }
            long x = seed;
            for (int i = 0; i < n && i < count; i++) {
                x = x * SAMPLE_FACTOR + SAMPLE_STEP;
                int other = i + (int) ((x >>> 33) % (count - i));
                int moved = row[i];
                row[i] = row[other];
                row[other] = moved;
            }
            size = n;
        }
    }
}
