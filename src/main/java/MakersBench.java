/**
 * A bench on which makers of code are tried against one another; ../shared/DOC.md says what each call answers.
 *
 * All trees are rows made once, in the constructor: no call makes an object.
 */
public final class MakersBench {
    public static final int BAD = -1, NOT = -2, FULL = -3, VOID = -2000000000;

    private static final int NONE = -5;

    private static final int PLACES = 20;
    private static final int MOST_KEPT = 60;
    private static final int MOST_NODES = 200;
    private static final int MOST_MAKERS = 8;
    private static final int MOST_TURNS = 10;
    private static final int MOST_NUMBERED = 15;
    private static final int MOST_SEARCHED = 5;
    private static final int WIDEST = 6;
    private static final int WIDEST_SHOWN = 2;

    private static final int NUMBER = 0;
    private static final int INPUT_A = 1;
    private static final int INPUT_B = 2;
    private static final int NEG = 3;
    private static final int ADD = 4;
    private static final int LESS = 5;
    private static final int TIMES = 6;
    private static final int OVER = 7;
    private static final int IF = 8;
    private static final int[] PARTS = {0, 0, 0, 1, 2, 2, 2, 2, 3};

    private static final int FOLD = 0;
    private static final int ZERO = 1;
    private static final int SAME = 2;
    private static final int PICK = 3;
    private static final int MELT = 4;
    private static final int TWICE = 5;
    private static final int SINK = 6;

    private final Grammar grammar = new Grammar();
    private final Pile pile = new Pile();
    private final Tree[] places = new Tree[PLACES];
    private final Maker[] makers = new Maker[MOST_MAKERS];
    private final Workshop workshop = new Workshop();
    private final Code right = new Code();
    private final Code tried = new Code();
    private final Tree found = new Tree();
    private final Tree candidate = new Tree();
    private final Tree nought = new Tree();
    private int makerCount = 0;
    private int stepsDone = BAD;

    public MakersBench() {
        for (int i = 0; i < PLACES; i++) {
            places[i] = new Tree();
        }
        for (int i = 0; i < MOST_MAKERS; i++) {
            makers[i] = new Maker();
        }
        nought.append(NUMBER, 0);
    }

    // ---- programs

    public long many(int n) {
        return within(n, 1, MOST_NUMBERED) ? grammar.howMany(n) : BAD;
    }

    public int nth(int place, int n, long i) {
        Tree target = placeAt(place);
        if (target == null || !within(n, 1, MOST_NUMBERED) || i < 0 || i >= grammar.howMany(n)) {
            return BAD;
        }
        grammar.unfold(target, n, i);
        return target.length;
    }

    public long number(int place) {
        Tree program = programAt(place);
        if (program == null) {
            return BAD;
        }
        return grammar.isNumbered(program) ? grammar.rank(program) : NOT;
    }

    public int node(int kind, int v) {
        if (!within(kind, NUMBER, IF) || (kind != NUMBER && v != 0)) {
            return BAD;
        }
        if (pile.trees < partsOf(kind)) {
            return NOT;
        }
        if (pile.row.length >= MOST_KEPT) {
            return FULL;
        }
        pile.put(kind, v);
        return pile.trees;
    }

    public int keep(int place) {
        Tree target = placeAt(place);
        if (target == null) {
            return BAD;
        }
        if (pile.trees != 1) {
            return NOT;
        }
        target.become(pile.row);
        pile.clear();
        return target.length;
    }

    public int drop(int place) {
        Tree program = programAt(place);
        if (program == null) {
            return BAD;
        }
        int size = program.length;
        program.clear();
        return size;
    }

    public int read(int place, int i, int what) {
        Tree program = programAt(place);
        return program == null ? VOID : tell(program, i, what);
    }

    public int value(int place, int a, int b) {
        Tree program = programAt(place);
        if (program == null) {
            return VOID;
        }
        right.write(program);
        return right.run(a, b) ? right.result : VOID;
    }

    public int safe(int place, int k) {
        Tree program = programAt(place);
        if (program == null || !within(k, 0, WIDEST)) {
            return BAD;
        }
        return isSafe(program, k) ? 1 : 0;
    }

    public int breed(int place, int first, int i, int second, int j) {
        Tree target = placeAt(place);
        Tree one = programAt(first);
        Tree other = programAt(second);
        if (target == null || one == null || other == null || !one.has(i) || !other.has(j)) {
            return BAD;
        }
        if (one.length - one.sizeOf(i) + other.sizeOf(j) > MOST_KEPT) {
            return FULL;
        }
        candidate.join(one, i, other, j);
        target.become(candidate);
        return target.length;
    }

    // ---- makers

    public int maker() {
        if (makerCount >= MOST_MAKERS) {
            return FULL;
        }
        makerCount++;
        return makerCount - 1;
    }

    public int turn(int maker, int sort, int fault) {
        Maker chosen = makerAt(maker);
        if (chosen == null || !within(sort, FOLD, SINK) || !within(fault, 0, 2)) {
            return BAD;
        }
        if (chosen.turns >= MOST_TURNS) {
            return FULL;
        }
        chosen.addTurn(sort, fault);
        return chosen.turns;
    }

    public int plant(int maker, int turn, int fault) {
        Maker chosen = makerAt(maker);
        if (chosen == null || !chosen.has(turn) || !within(fault, 0, 2)) {
            return BAD;
        }
        int was = chosen.faultOf(turn);
        chosen.setFault(turn, fault);
        return was;
    }

    public int made(int maker, int place, int n) {
        Maker chosen = makerAt(maker);
        Tree program = programAt(place);
        if (chosen == null || program == null || !within(n, 0, chosen.turns)) {
            return BAD;
        }
        workshop.make(chosen, program, n);
        found.become(workshop.now);
        return found.length;
    }

    public int part(int i, int what) {
        return tell(found, i, what);
    }

    public int answer(int maker, int place, int a, int b) {
        if (!write(maker, place)) {
            return VOID;
        }
        return tried.run(a, b) ? tried.result : VOID;
    }

    public int cost(int maker, int place, int a, int b) {
        if (!write(maker, place)) {
            return BAD;
        }
        tried.run(a, b);
        return tried.done;
    }

    public int fires(int maker, int place, int i) {
        Maker chosen = makerAt(maker);
        Tree program = programAt(place);
        if (chosen == null || program == null || !chosen.has(i)) {
            return BAD;
        }
        return workshop.firings(chosen, program, i);
    }

    public int never(int maker) {
        Maker chosen = makerAt(maker);
        if (chosen == null) {
            return BAD;
        }
        int silent = (1 << chosen.turns) - 1;
        for (int place = 0; place < PLACES; place++) {
            Tree program = programAt(place);
            if (program != null) {
                silent &= ~workshop.firingTurns(chosen, program);
            }
        }
        return silent;
    }

    // ---- differences

    public int differ(int maker, int place, int k) {
        if (!within(k, 0, WIDEST) || !write(maker, place)) {
            return BAD;
        }
        if (!right.isNeverFree(k)) {
            return NOT;
        }
        int differing = 0;
        for (int a = -k; a <= k; a++) {
            for (int b = -k; b <= k; b++) {
                if (isWrongAt(a, b)) {
                    differing++;
                }
            }
        }
        return differing;
    }

    public int first(int maker, int place, int k) {
        if (!within(k, 0, WIDEST) || !write(maker, place)) {
            return BAD;
        }
        if (!right.isNeverFree(k)) {
            return NOT;
        }
        for (int a = -k; a <= k; a++) {
            for (int b = -k; b <= k; b++) {
                if (isWrongAt(a, b)) {
                    return 100 * (a + WIDEST) + b + WIDEST;
                }
            }
        }
        return NONE;
    }

    public int cause(int maker, int place, int a, int b) {
        Maker chosen = makerAt(maker);
        Tree program = programAt(place);
        if (chosen == null || program == null) {
            return BAD;
        }
        right.write(program);
        if (!right.run(a, b)) {
            return NOT;
        }
        workshop.now.become(program);
        for (int i = 0; i < chosen.turns; i++) {
            workshop.apply(chosen.sortOf(i), chosen.faultOf(i));
            tried.write(workshop.now);
            if (!tried.run(a, b) || tried.result != right.result) {
                return i;
            }
        }
        return NOT;
    }

    public int small(int maker, int place, int k) {
        Maker chosen = makerAt(maker);
        Tree program = programAt(place);
        if (chosen == null || program == null || !within(k, 0, WIDEST)) {
            return BAD;
        }
        if (!isFaulty(chosen, program, k)) {
            return NOT;
        }
        int did = 0;
        // Each STEP takes a NODE away or turns a leaf into 0, so there are never more than this.
        for (int most = 2 * MOST_KEPT; did < most && shrink(chosen, program, k); did++) {
            program.become(candidate);
        }
        stepsDone = did;
        return program.length;
    }

    public int steps() {
        return stepsDone;
    }

    // ---- all of a size

    public long least(int maker, int turn, int n) {
        Maker chosen = makerAt(maker);
        if (chosen == null || !chosen.has(turn) || !within(n, 1, MOST_SEARCHED)) {
            return BAD;
        }
        for (int size = 1; size <= n; size++) {
            long all = grammar.howMany(size);
            for (long i = 0; i < all; i++) {
                grammar.unfold(candidate, size, i);
                if (workshop.firings(chosen, candidate, turn) > 0) {
                    return 16 * i + size;
                }
            }
        }
        return NONE;
    }

    public int shown(int maker, int n, int k, int what) {
        Maker chosen = makerAt(maker);
        if (chosen == null || !within(n, 1, MOST_SEARCHED) || !within(k, 0, WIDEST_SHOWN) || !within(what, 0, 1)) {
            return BAD;
        }
        int counted = 0;
        long all = grammar.howMany(n);
        for (long i = 0; i < all; i++) {
            grammar.unfold(candidate, n, i);
            if (what == 0 ? isSafe(candidate, k) : isFaulty(chosen, candidate, k)) {
                counted++;
            }
        }
        return counted;
    }

    public int count(int what) {
        switch (what) {
            case 0:
                return keptPrograms();
            case 1:
                return makerCount;
            case 2:
                return pile.trees;
            case 3:
                return pile.row.length;
            case 4:
                return keptNodes();
            default:
                return BAD;
        }
    }

    public int ofMaker(int maker, int turn) {
        Maker chosen = makerAt(maker);
        if (chosen == null) {
            return BAD;
        }
        if (turn == -1) {
            return chosen.turns;
        }
        return chosen.has(turn) ? 10 * chosen.sortOf(turn) + chosen.faultOf(turn) : BAD;
    }

    // ---- what the calls share

    private static boolean within(int x, int low, int high) {
        return x >= low && x <= high;
    }

    private static int partsOf(int kind) {
        return kind >= 0 && kind < PARTS.length ? PARTS[kind] : 0;
    }

    /** The VALUE of a NODE with two PARTS; who calls has seen to it that nothing is divided by 0. */
    private static int combine(int kind, int x, int y) {
        switch (kind) {
            case ADD:
                return x + y;
            case LESS:
                return x - y;
            case TIMES:
                return x * y;
            default:
                return y == 0 ? 0 : x / y;
        }
    }

    private static int tell(Tree tree, int i, int what) {
        if (!tree.has(i)) {
            return VOID;
        }
        switch (what) {
            case 0:
                return tree.kindOf(i);
            case 1:
                return tree.numberOf(i);
            case 2:
                return tree.sizeOf(i);
            default:
                return VOID;
        }
    }

    private Tree placeAt(int place) {
        return within(place, 0, PLACES - 1) ? places[place] : null;
    }

    /** An empty place holds a tree without nodes, which is no program. */
    private Tree programAt(int place) {
        Tree tree = placeAt(place);
        return tree == null || tree.length == 0 ? null : tree;
    }

    private Maker makerAt(int maker) {
        return within(maker, 0, makerCount - 1) && maker < MOST_MAKERS ? makers[maker] : null;
    }

    private int keptPrograms() {
        int kept = 0;
        for (int place = 0; place < PLACES; place++) {
            if (programAt(place) != null) {
                kept++;
            }
        }
        return kept;
    }

    private int keptNodes() {
        int nodes = 0;
        for (int place = 0; place < PLACES; place++) {
            Tree program = programAt(place);
            if (program != null) {
                nodes += program.length;
            }
        }
        return nodes;
    }

    /** Writes the code of a program and of what a maker makes of it; false if there is no such maker or program. */
    private boolean write(int maker, int place) {
        Maker chosen = makerAt(maker);
        Tree program = programAt(place);
        if (chosen == null || program == null) {
            return false;
        }
        workshop.make(chosen, program, chosen.turns);
        right.write(program);
        tried.write(workshop.now);
        return true;
    }

    /** Only for a, b for which nothing FREE is worked out in the program itself. */
    private boolean isWrongAt(int a, int b) {
        right.run(a, b);
        return !tried.run(a, b) || tried.result != right.result;
    }

    private boolean isSafe(Tree program, int k) {
        right.write(program);
        return right.isNeverFree(k);
    }

    /** A maker none of whose turns fires has made the program itself, which never differs. */
    private boolean isFaulty(Maker chosen, Tree program, int k) {
        return workshop.make(chosen, program, chosen.turns) > 0 && showsFault(program, k);
    }

    /**
     * Whether the program is SAFE within k and what lies in the workshop, made of it, has another VALUE somewhere.
     * An input that the program does not read is not varied: no turn brings an input in.
     */
    private boolean showsFault(Tree program, int k) {
        right.write(program);
        tried.write(workshop.now);
        int lastA = right.readsA ? k : -k;
        int lastB = right.readsB ? k : -k;
        boolean wrong = false;
        for (int a = -k; a <= lastA; a++) {
            for (int b = -k; b <= lastB; b++) {
                if (!right.run(a, b)) {
                    return false;
                }
                wrong = wrong || !tried.run(a, b) || tried.result != right.result;
                if (wrong && !right.divides) {
                    return true;
                }
            }
        }
        return wrong;
    }

    /**
     * Looks for the first STEP that leaves a faulty program; the candidate is that program then.
     * What isFaulty does is done here itself: by way of it, calls would go more than eight deep.
     */
    private boolean shrink(Maker chosen, Tree program, int k) {
        for (int i = 0; i < program.length; i++) {
            int parts = partsOf(program.kindOf(i));
            int from = i + 1;
            for (int step = 0; step <= parts; step++) {
                boolean toNought = step == parts;
                if (toNought && program.isNumber(i, 0)) {
                    continue;
                }
                candidate.join(program, i, toNought ? nought : program, toNought ? 0 : from);
                if (workshop.make(chosen, candidate, chosen.turns) > 0 && showsFault(candidate, k)) {
                    return true;
                }
                from = program.behind(from);
            }
        }
        return false;
    }

    /**
     * A tree as rows in the order of STEPS, each node ahead of its parts: what hangs on a node is a run of
     * neighbours, and two trees are the same if their runs are.
     */
    private static final class Tree {
        private final int[] kinds = new int[MOST_NODES];
        private final int[] numbers = new int[MOST_NODES];
        private final int[] sizes = new int[MOST_NODES];
        private int length = 0;

        boolean has(int i) {
            return i >= 0 && i < length;
        }

        int kindOf(int i) {
            return i >= 0 && i < length ? kinds[i] : NUMBER;
        }

        int numberOf(int i) {
            return i >= 0 && i < length ? numbers[i] : 0;
        }

        int sizeOf(int i) {
            return i >= 0 && i < length ? sizes[i] : 0;
        }

        /** Where the run of node i has ended: of a part that is not the last one, where the next part stands. */
        int behind(int i) {
            return i >= 0 && i < length ? i + sizes[i] : length;
        }

        boolean isNumber(int i, int v) {
            return i >= 0 && i < length && kinds[i] == NUMBER && numbers[i] == v;
        }

        boolean isSame(int i, int j) {
            int size = sizeOf(i);
            if (size != sizeOf(j)) {
                return false;
            }
            for (int n = 0; n < size; n++) {
                if (kindOf(i + n) != kindOf(j + n) || numberOf(i + n) != numberOf(j + n)) {
                    return false;
                }
            }
            return true;
        }

        void clear() {
            length = 0;
        }

        void append(int kind, int v) {
            if (length >= 0 && length < MOST_NODES) {
                kinds[length] = kind;
                numbers[length] = v;
                sizes[length] = 1;
                length++;
            }
        }

        void appendRun(Tree from, int start, int count) {
            if (start < 0 || count < 0 || start > from.length - count || length > MOST_NODES - count) {
                return;
            }
            System.arraycopy(from.kinds, start, kinds, length, count);
            System.arraycopy(from.numbers, start, numbers, length, count);
            System.arraycopy(from.sizes, start, sizes, length, count);
            length += count;
        }

        void become(Tree other) {
            length = 0;
            appendRun(other, 0, other.length);
        }

        /** Becomes the one tree with its node i being node j of the other one. */
        void join(Tree one, int i, Tree other, int j) {
            length = 0;
            appendRun(one, 0, i);
            appendRun(other, j, other.sizeOf(j));
            appendRun(one, one.behind(i), one.length - one.behind(i));
            measure();
        }

        private void measure() {
            for (int i = length - 1; i >= 0; i--) {
                int end = i + 1;
                for (int parts = partsOf(kinds[i]); parts > 0; parts--) {
                    end = behind(end);
                }
                sizes[i] = end - i;
            }
        }

        /** The last node whose parts are not all there yet gets what has been appended since. */
        void close(int i) {
            if (has(i)) {
                sizes[i] = length - i;
            }
        }

        void rename(int i, int kind) {
            if (has(i)) {
                kinds[i] = kind;
                numbers[i] = 0;
                sizes[i] = length - i;
            }
        }

        void insert(int i, int kind, int v) {
            if (i < 0 || i > length || length >= MOST_NODES) {
                return;
            }
            System.arraycopy(kinds, i, kinds, i + 1, length - i);
            System.arraycopy(numbers, i, numbers, i + 1, length - i);
            System.arraycopy(sizes, i, sizes, i + 1, length - i);
            length++;
            kinds[i] = kind;
            numbers[i] = v;
            sizes[i] = length - i;
        }

        void cut(int start, int count) {
            if (start < 0 || count < 0 || start > length - count) {
                return;
            }
            int next = start + count;
            System.arraycopy(kinds, next, kinds, start, length - next);
            System.arraycopy(numbers, next, numbers, start, length - next);
            System.arraycopy(sizes, next, sizes, start, length - next);
            length -= count;
        }

        /** Of node i, whose run is the row's end, only the number v stays. */
        void endAsNumber(int i, int v) {
            if (has(i)) {
                length = i;
                append(NUMBER, v);
            }
        }

        /** Of node i, whose run is the row's end, only its part p stays. */
        void endAsPart(int i, int p) {
            if (i < 0 || p < i || p >= length) {
                return;
            }
            int size = Math.min(sizes[p], length - p);
            System.arraycopy(kinds, p, kinds, i, size);
            System.arraycopy(numbers, p, numbers, i, size);
            System.arraycopy(sizes, p, sizes, i, size);
            length = i + size;
        }
    }

    /** THE PILE: the rows of its trees one behind the other in one row. */
    private static final class Pile {
        private final Tree row = new Tree();
        private final int[] starts = new int[MOST_KEPT];
        private int trees = 0;

        void clear() {
            row.clear();
            trees = 0;
        }

        void put(int kind, int v) {
            int left = trees - partsOf(kind);
            if (left < 0 || left >= MOST_KEPT) {
                return;
            }
            int start = left < trees ? starts[left] : row.length;
            row.insert(start, kind, v);
            starts[left] = start;
            trees = left + 1;
        }
    }

    private static final class Maker {
        private final int[] sorts = new int[MOST_TURNS];
        private final int[] faults = new int[MOST_TURNS];
        private int turns = 0;

        boolean has(int i) {
            return i >= 0 && i < turns;
        }

        int sortOf(int i) {
            return has(i) ? sorts[i] : FOLD;
        }

        int faultOf(int i) {
            return has(i) ? faults[i] : 0;
        }

        void setFault(int i, int fault) {
            if (has(i)) {
                faults[i] = fault;
            }
        }

        void addTurn(int sort, int fault) {
            if (turns >= 0 && turns < MOST_TURNS) {
                sorts[turns] = sort;
                faults[turns] = fault;
                turns++;
            }
        }
    }

    /** The order BY NUMBER: from a number to its program and back. */
    private static final class Grammar {
        private static final int LEAVES = 5;
        private static final int NUMBERS = 3;
        private static final int TWO_PART_KINDS = 4;

        /** How many programs, rows of two, and rows of three have that many nodes in all. */
        private final long[] ones = new long[MOST_NUMBERED + 1];
        private final long[] twos = new long[MOST_NUMBERED + 1];
        private final long[] threes = new long[MOST_NUMBERED + 1];

        private final int[] deferredSizes = new int[MOST_NUMBERED + 1];
        private final long[] deferredNumbers = new long[MOST_NUMBERED + 1];
        private int deferred = 0;
        private final long[] ranks = new long[MOST_NUMBERED + 1];

        Grammar() {
            ones[1] = LEAVES;
            for (int n = 2; n <= MOST_NUMBERED; n++) {
                ones[n] = ones[n - 1] + TWO_PART_KINDS * twos[n - 1] + threes[n - 1];
                for (int s = 1; s < n; s++) {
                    twos[n] += ones[s] * ones[n - s];
                    threes[n] += ones[s] * twos[n - s];
                }
            }
        }

        long howMany(int n) {
            return within(n, 1, MOST_NUMBERED) ? ones[n] : 0;
        }

        void unfold(Tree out, int n, long i) {
            out.clear();
            deferred = 0;
            defer(n, i);
            for (int nodes = 0; nodes < n && deferred > 0 && deferred <= MOST_NUMBERED; nodes++) {
                deferred--;
                unfoldNode(out, deferredSizes[deferred], deferredNumbers[deferred]);
            }
            out.measure();
        }

        private void unfoldNode(Tree out, int size, long number) {
            if (size < 2) {
                unfoldLeaf(out, (int) number);
                return;
            }
            int rest = size - 1;
            long left = number - howMany(rest);
            if (left < 0) {
                out.append(NEG, 0);
                defer(rest, number);
                return;
            }
            long each = rest <= MOST_NUMBERED ? twos[rest] : 0;
            if (each > 0 && left < TWO_PART_KINDS * each) {
                out.append(ADD + (int) (left / each), 0);
                deferTwo(rest, left % each);
                return;
            }
            out.append(IF, 0);
            deferThree(rest, left - TWO_PART_KINDS * each);
        }

        private void unfoldLeaf(Tree out, int number) {
            if (number < NUMBERS) {
                out.append(NUMBER, number);
            } else {
                out.append(number == NUMBERS ? INPUT_A : INPUT_B, 0);
            }
        }

        private void defer(int size, long number) {
            if (deferred >= 0 && deferred <= MOST_NUMBERED) {
                deferredSizes[deferred] = size;
                deferredNumbers[deferred] = number;
                deferred++;
            }
        }

        /** The first part is to be unfolded first, so it is deferred last. */
        private void deferTwo(int both, long number) {
            long left = number;
            for (int s = 1; s < both; s++) {
                long each = howMany(both - s);
                long block = howMany(s) * each;
                if (each > 0 && left < block) {
                    defer(both - s, left % each);
                    defer(s, left / each);
                    return;
                }
                left -= block;
            }
        }

        private void deferThree(int all, long number) {
            long left = number;
            for (int s = 1; s < all && all <= MOST_NUMBERED; s++) {
                long each = twos[all - s];
                long block = howMany(s) * each;
                if (each > 0 && left < block) {
                    deferTwo(all - s, left % each);
                    defer(s, left / each);
                    return;
                }
                left -= block;
            }
        }

        boolean isNumbered(Tree program) {
            if (program.length > MOST_NUMBERED) {
                return false;
            }
            for (int i = 0; i < program.length; i++) {
                if (program.kindOf(i) == NUMBER && !within(program.numberOf(i), 0, NUMBERS - 1)) {
                    return false;
                }
            }
            return true;
        }

        /** From the last node back, so that the parts of a node have their ranks ahead of it. */
        long rank(Tree program) {
            for (int i = Math.min(program.length, MOST_NUMBERED) - 1; i >= 0; i--) {
                ranks[i] = rankOfNode(program, i);
            }
            return ranks[0];
        }

        private long rankOfNode(Tree program, int i) {
            int kind = program.kindOf(i);
            int rest = program.sizeOf(i) - 1;
            if (kind == NUMBER) {
                return program.numberOf(i);
            }
            if (kind == INPUT_A || kind == INPUT_B) {
                return NUMBERS + kind - INPUT_A;
            }
            if (kind == NEG) {
                return rankAt(i + 1);
            }
            long each = within(rest, 0, MOST_NUMBERED) ? twos[rest] : 0;
            if (kind == IF) {
                return howMany(rest) + TWO_PART_KINDS * each + rankOfThree(program, i + 1, rest);
            }
            return howMany(rest) + (kind - ADD) * each + rankOfTwo(program, i + 1);
        }

        private long rankAt(int i) {
            return within(i, 0, MOST_NUMBERED) ? ranks[i] : 0;
        }

        private long rankOfTwo(Tree program, int p) {
            int q = program.behind(p);
            int size = program.sizeOf(p);
            int both = size + program.sizeOf(q);
            long rank = rankAt(p) * howMany(both - size) + rankAt(q);
            for (int s = 1; s < size; s++) {
                rank += howMany(s) * howMany(both - s);
            }
            return rank;
        }

        private long rankOfThree(Tree program, int p, int all) {
            int size = program.sizeOf(p);
            long rank = rankOfTwo(program, program.behind(p));
            for (int s = 1; s <= size && s <= all && all <= MOST_NUMBERED; s++) {
                rank += (s < size ? howMany(s) : rankAt(p)) * twos[all - s];
            }
            return rank;
        }
    }

    /** Turns a tree by the turns of a maker, each turn from one row into another one. */
    private static final class Workshop {
        private final int[] open = new int[MOST_NODES];
        private final int[] missing = new int[MOST_NODES];
        private Tree now = new Tree();
        private Tree next = new Tree();

        /** Makes what the first n turns make of a program: how often they fired. */
        int make(Maker maker, Tree program, int n) {
            now.become(program);
            int fired = 0;
            for (int i = 0; i < n; i++) {
                fired += apply(maker.sortOf(i), maker.faultOf(i));
            }
            return fired;
        }

        int firings(Maker maker, Tree program, int turn) {
            make(maker, program, turn);
            return apply(maker.sortOf(turn), maker.faultOf(turn));
        }

        int firingTurns(Maker maker, Tree program) {
            now.become(program);
            int firing = 0;
            for (int i = 0; i < maker.turns; i++) {
                if (apply(maker.sortOf(i), maker.faultOf(i)) > 0) {
                    firing |= 1 << i;
                }
            }
            return firing;
        }

        /**
         * Reads the nodes in their order and appends them to the new row. A node is looked at as soon as none of
         * its parts is missing, its run being the end of the new row then; no sort looks at one without parts.
         */
        int apply(int sort, int fault) {
            int fired = 0;
            int depth = 0;
            next.clear();
            for (int i = 0; i < now.length && depth < MOST_NODES; i++) {
                int kind = now.kindOf(i);
                next.append(kind, now.numberOf(i));
                if (partsOf(kind) > 0) {
                    open[depth] = next.length - 1;
                    missing[depth] = partsOf(kind);
                    depth++;
                    continue;
                }
                for (int top = depth - 1; top >= 0; top--) {
                    missing[top]--;
                    if (missing[top] > 0) {
                        break;
                    }
                    depth = top;
                    next.close(open[top]);
                    if (Rules.fire(next, open[top], sort, fault, now.length - 1 - i)) {
                        fired++;
                    }
                }
            }
            Tree before = now;
            now = next;
            next = before;
            return fired;
        }
    }

    /** What the SORTS of turns do to a node whose run is the end of the row: whether it fires. */
    private static final class Rules {
        static boolean fire(Tree tree, int at, int sort, int fault, int unread) {
            switch (sort) {
                case FOLD:
                    return fold(tree, at, fault);
                case ZERO:
                    return zero(tree, at, fault);
                case SAME:
                    return same(tree, at, fault);
                case PICK:
                    return pick(tree, at, fault);
                case MELT:
                    return melt(tree, at, fault);
                case TWICE:
                    return twice(tree, at, fault, unread);
                case SINK:
                    return sink(tree, at, fault);
                default:
                    return false;
            }
        }

        private static boolean fold(Tree tree, int at, int fault) {
            int kind = tree.kindOf(at);
            int x = at + 1;
            if (kind < NEG || kind > OVER || tree.kindOf(x) != NUMBER) {
                return false;
            }
            if (kind == NEG) {
                tree.endAsNumber(at, -tree.numberOf(x));
                return true;
            }
            int y = tree.behind(x);
            if (tree.kindOf(y) != NUMBER || (kind == OVER && tree.numberOf(y) == 0)) {
                return false;
            }
            int folded = combine(kind, tree.numberOf(x), tree.numberOf(y));
            if (kind == LESS && fault == 1) {
                folded = tree.numberOf(y) - tree.numberOf(x);
            } else if (kind == TIMES && fault == 2) {
                folded = (short) folded;
            }
            tree.endAsNumber(at, folded);
            return true;
        }

        private static boolean zero(Tree tree, int at, int fault) {
            int x = at + 1;
            int y = tree.behind(x);
            int stays = -1;
            switch (tree.kindOf(at)) {
                case ADD:
                    stays = tree.isNumber(y, 0) ? x : tree.isNumber(x, 0) ? y : -1;
                    break;
                case LESS:
                    stays = tree.isNumber(y, 0) ? x : fault == 1 && tree.isNumber(x, 0) ? y : -1;
                    break;
                case TIMES:
                    stays = staysOfTimes(tree, x, y, fault);
                    break;
                case OVER:
                    stays = tree.isNumber(y, 1) ? x : -1;
                    break;
                default:
                    break;
            }
            if (stays < 0) {
                return false;
            }
            tree.endAsPart(at, stays);
            return true;
        }

        private static int staysOfTimes(Tree tree, int x, int y, int fault) {
            if (tree.isNumber(y, 1)) {
                return x;
            }
            if (tree.isNumber(x, 1)) {
                return y;
            }
            if (tree.isNumber(y, 0)) {
                return fault == 2 ? x : y;
            }
            if (tree.isNumber(x, 0)) {
                return fault == 2 ? y : x;
            }
            return -1;
        }

        private static boolean same(Tree tree, int at, int fault) {
            int kind = tree.kindOf(at);
            if (kind != LESS && !(kind == ADD && fault == 1)) {
                return false;
            }
            int x = at + 1;
            int y = tree.behind(x);
            if (!(fault == 2 ? isAlike(tree, x, y) : tree.isSame(x, y))) {
                return false;
            }
            tree.endAsNumber(at, 0);
            return true;
        }

        /** Only numbers have a v other than 0, so it may be compared for all kinds. */
        private static boolean isAlike(Tree tree, int x, int y) {
            return tree.kindOf(x) == tree.kindOf(y) && tree.numberOf(x) == tree.numberOf(y)
                && tree.sizeOf(x) == tree.sizeOf(y);
        }

        private static boolean pick(Tree tree, int at, int fault) {
            int x = at + 1;
            if (tree.kindOf(at) != IF || tree.kindOf(x) != NUMBER) {
                return false;
            }
            int y = tree.behind(x);
            int v = tree.numberOf(x);
            boolean second = fault == 2 || (fault == 1 ? v > 0 : v != 0);
            tree.endAsPart(at, second ? y : tree.behind(y));
            return true;
        }

        private static boolean melt(Tree tree, int at, int fault) {
            if (tree.kindOf(at) != IF) {
                return false;
            }
            int x = at + 1;
            int y = tree.behind(x);
            int z = tree.behind(y);
            boolean melts = fault == 1 ? tree.sizeOf(y) == tree.sizeOf(z) : tree.isSame(y, z);
            if (!melts && !(fault == 2 && tree.isSame(x, y))) {
                return false;
            }
            tree.endAsPart(at, y);
            return true;
        }

        private static boolean twice(Tree tree, int at, int fault, int unread) {
            int x = at + 1;
            int y = tree.behind(x);
            int kind = tree.kindOf(at);
            int doubled = -1;
            if (kind == TIMES) {
                doubled = otherThan(tree, x, y, 2);
                if (doubled < 0 && fault == 1) {
                    doubled = otherThan(tree, x, y, 3);
                }
            } else if (kind == OVER && fault == 2 && tree.isNumber(y, 2)) {
                doubled = x;
            }
            // The number goes, and the part comes once more.
            if (doubled < 0 || tree.length + unread + tree.sizeOf(doubled) - 1 > MOST_NODES) {
                return false;
            }
            tree.endAsPart(at, doubled);
            int size = tree.sizeOf(at);
            tree.insert(at, kind == TIMES ? ADD : LESS, 0);
            tree.appendRun(tree, at + 1, size);
            tree.close(at);
            return true;
        }

        private static int otherThan(Tree tree, int x, int y, int v) {
            return tree.isNumber(y, v) ? x : tree.isNumber(x, v) ? y : -1;
        }

        private static boolean sink(Tree tree, int at, int fault) {
            int kind = tree.kindOf(at);
            int x = at + 1;
            if (kind == NEG && tree.kindOf(x) == NEG) {
                tree.endAsPart(at, x + 1);
                return true;
            }
            if (kind != ADD && kind != LESS) {
                return false;
            }
            int y = tree.behind(x);
            if (tree.kindOf(y) == NEG) {
                tree.cut(y, 1);
                tree.rename(at, kind == ADD || fault == 2 ? LESS : ADD);
                return true;
            }
            if (kind == ADD && fault == 1 && tree.kindOf(x) == NEG) {
                tree.cut(x, 1);
                tree.rename(at, LESS);
                return true;
            }
            return false;
        }
    }

    /** The orders of a tree, and what running them finds. */
    private static final class Code {
        private static final int JUMP_IF_0 = 9;
        private static final int JUMP = 10;
        /** An IF has two jumps in place of its one order, and three parts. */
        private static final int MOST_ORDERS = 2 * MOST_NODES;

        private final int[] orders = new int[MOST_ORDERS];
        private final int[] details = new int[MOST_ORDERS];
        private int length = 0;
        private boolean readsA = false;
        private boolean readsB = false;
        private boolean divides = false;

        private final int[] openKinds = new int[MOST_NODES];
        private final int[] openParts = new int[MOST_NODES];
        private final int[] openJumps = new int[MOST_NODES];

        private final int[] stack = new int[MOST_NODES];
        private int result = 0;
        private int done = 0;

        void write(Tree tree) {
            length = 0;
            readsA = false;
            readsB = false;
            divides = false;
            int depth = 0;
            for (int i = 0; i < tree.length && depth < MOST_NODES; i++) {
                int kind = tree.kindOf(i);
                if (partsOf(kind) > 0) {
                    openKinds[depth] = kind;
                    openParts[depth] = 0;
                    depth++;
                } else {
                    add(kind, tree.numberOf(i));
                    depth = endParts(depth);
                }
            }
        }

        private void add(int order, int detail) {
            if (length < 0 || length >= MOST_ORDERS) {
                return;
            }
            orders[length] = order;
            details[length] = detail;
            length++;
            readsA = readsA || order == INPUT_A;
            readsB = readsB || order == INPUT_B;
            divides = divides || order == OVER;
        }

        /** A part has ended, and with it every open node whose last part it is: how many are open then. */
        private int endParts(int depth) {
            for (int top = depth - 1; top >= 0 && top < MOST_NODES; top--) {
                openParts[top]++;
                if (openKinds[top] == IF) {
                    jumpBehindPart(top);
                }
                if (openParts[top] < partsOf(openKinds[top])) {
                    return top + 1;
                }
                if (openKinds[top] != IF) {
                    add(openKinds[top], 0);
                }
            }
            return 0;
        }

        private void jumpBehindPart(int top) {
            if (openParts[top] == 1) {
                openJumps[top] = length;
                add(JUMP_IF_0, 0);
            } else if (openParts[top] == 2) {
                aim(openJumps[top], length + 1);
                openJumps[top] = length;
                add(JUMP, 0);
            } else {
                aim(openJumps[top], length);
            }
        }

        private void aim(int jump, int target) {
            if (jump >= 0 && jump < length) {
                details[jump] = target;
            }
        }

        /** Does the orders, up to one that is FREE: whether none was. Jumps lead on, so none is done twice. */
        boolean run(int a, int b) {
            int top = 0;
            int at = 0;
            for (int i = 1; i <= length && at < length; i++) {
                done = i;
                int order = orders[at];
                int detail = details[at];
                at++;
                if (order <= INPUT_B) {
                    if (top >= MOST_NODES) {
                        return false;
                    }
                    stack[top] = order == NUMBER ? detail : order == INPUT_A ? a : b;
                    top++;
                } else if (order == JUMP) {
                    at = Math.max(at, detail);
                } else if (top < 1) {
                    return false;
                } else if (order == JUMP_IF_0) {
                    top--;
                    at = stack[top] == 0 ? Math.max(at, detail) : at;
                } else if (order == NEG) {
                    stack[top - 1] = -stack[top - 1];
                } else if (top < 2 || (order == OVER && stack[top - 1] == 0)) {
                    return false;
                } else {
                    top--;
                    stack[top - 1] = combine(order, stack[top - 1], stack[top]);
                }
            }
            result = top > 0 ? stack[top - 1] : 0;
            return true;
        }

        /** An input that is not read is not varied. */
        boolean isNeverFree(int k) {
            int lastA = readsA ? k : -k;
            int lastB = readsB ? k : -k;
            for (int a = -k; divides && a <= lastA; a++) {
                for (int b = -k; b <= lastB; b++) {
                    if (!run(a, b)) {
                        return false;
                    }
                }
            }
            return true;
        }
    }
}
