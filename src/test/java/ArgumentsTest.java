/**
 * Each argument of each call: the last one that is allowed and the first one that is not, below and above, and far
 * off; empty places, no makers, makers without turns. Each answer is asked of a new object.
 */
public final class ArgumentsTest extends Trial {
    /** 0 LESS (a ADD 9): ZERO with FAULT 1 makes a ADD 9 of it, which is another VALUE for all a but -9. */
    private static final String WRONGED = "#0 a #9 + -";
    private static final int PLACES = 20;
    private static final int MAKERS = 8;

    /** A call that takes a place or a maker, what it answers when that is refused, and what else. */
    private record Call(String name, long refused, long due, Of of) {
    }

    private interface Of {
        long ask(MakersBench x, int argument);
    }

    /** Of a program, WRONGED, in a place; maker 0 has the one turn ZERO with FAULT 1. */
    private static final Call[] OF_PROGRAM = {
        new Call("number", BAD, NOT, (x, p) -> x.number(p)),
        new Call("drop", BAD, 5, (x, p) -> x.drop(p)),
        new Call("read", VOID, LESS, (x, p) -> x.read(p, 0, 0)),
        new Call("value", VOID, -10, (x, p) -> x.value(p, 1, 0)),
        new Call("safe", BAD, 1, (x, p) -> x.safe(p, 6)),
        new Call("breed, first", BAD, 5, (x, p) -> x.breed(3, p, 0, 3, 0)),
        new Call("breed, second", BAD, 9, (x, p) -> x.breed(3, 3, 1, p, 0)),
        new Call("made", BAD, 3, (x, p) -> x.made(0, p, 1)),
        new Call("answer", VOID, 10, (x, p) -> x.answer(0, p, 1, 0)),
        new Call("cost", BAD, 3, (x, p) -> x.cost(0, p, 1, 0)),
        new Call("fires", BAD, 1, (x, p) -> x.fires(0, p, 0)),
        new Call("differ", BAD, 169, (x, p) -> x.differ(0, p, 6)),
        new Call("first", BAD, 505, (x, p) -> x.first(0, p, 1)),
        new Call("cause", BAD, 0, (x, p) -> x.cause(0, p, 1, 0)),
        new Call("small", BAD, 3, (x, p) -> x.small(0, p, 1))};

    /** Into a place, whether it is empty or not; a tree of one node lies on the pile, WRONGED in place 3. */
    private static final Call[] INTO_PLACE = {
        new Call("nth", BAD, 2, (x, p) -> x.nth(p, 2, 4)),
        new Call("keep", BAD, 1, (x, p) -> x.keep(p)),
        new Call("breed", BAD, 3, (x, p) -> x.breed(p, 3, 0, 3, 2))};

    /** Of a maker with the one turn ZERO with FAULT 1; WRONGED is in place 0. */
    private static final Call[] OF_MAKER = {
        new Call("turn", BAD, 2, (x, m) -> x.turn(m, 0, 0)),
        new Call("plant", BAD, 1, (x, m) -> x.plant(m, 0, 2)),
        new Call("made", BAD, 3, (x, m) -> x.made(m, 0, 1)),
        new Call("made by no turn", BAD, 5, (x, m) -> x.made(m, 0, 0)),
        new Call("answer", VOID, 9, (x, m) -> x.answer(m, 0, 0, 0)),
        new Call("cost", BAD, 3, (x, m) -> x.cost(m, 0, 0, 0)),
        new Call("fires", BAD, 1, (x, m) -> x.fires(m, 0, 0)),
        new Call("never", BAD, 0, (x, m) -> x.never(m)),
        new Call("differ", BAD, 9, (x, m) -> x.differ(m, 0, 1)),
        new Call("first", BAD, 606, (x, m) -> x.first(m, 0, 0)),
        new Call("cause", BAD, 0, (x, m) -> x.cause(m, 0, 0, 0)),
        new Call("small", BAD, 3, (x, m) -> x.small(m, 0, 0)),
        new Call("least", BAD, 16 * 5 + 3, (x, m) -> x.least(m, 0, 3)),
        new Call("shown", BAD, 90, (x, m) -> x.shown(m, 3, 0, 0)),
        new Call("ofMaker, how many", BAD, 1, (x, m) -> x.ofMaker(m, -1)),
        new Call("ofMaker", BAD, 11, (x, m) -> x.ofMaker(m, 0))};

    public static void main(String[] args) {
        programs();
        places();
        makers();
        noTurn();
        bySize();
        nodes();
        nodesOf();
        withinK();
        turnsOf();
        whole();
        DUE.end();
    }

    private static MakersBench wronged(int... places) {
        MakersBench x = withMaker(1, 1);
        for (int place : places) {
            put(x, place, WRONGED);
        }
        return x;
    }

    // ---- places

    private static void programs() {
        DUE.topic("a place with a program in it");
        for (Call c : OF_PROGRAM) {
            range(c.name, 0, PLACES - 1, c.refused, p -> c.of.ask(wronged(3, p), p), p -> c.due);
            for (int p = 0; p < PLACES; p++) {
                int other = p == 3 ? 4 : p;
                is(c.name + ", empty place " + other, c.of.ask(wronged(3), other), c.refused);
            }
            MakersBench dropped = wronged(3, 5);
            dropped.drop(5);
            is(c.name + ", a place that is empty again", c.of.ask(dropped, 5), c.refused);
            is(c.name + ", a new object", c.of.ask(new MakersBench(), 0), c.refused);
        }
    }

    private static void places() {
        DUE.topic("a place, be it empty or not");
        for (Call c : INTO_PLACE) {
            range(c.name, 0, PLACES - 1, c.refused, p -> c.of.ask(withPile(3), p), p -> c.due);
            range(c.name + " over another", 0, PLACES - 1, c.refused, p -> c.of.ask(withPile(3, p), p), p -> c.due);
            for (int p = 0; p < PLACES; p++) {
                MakersBench x = withPile(3);
                c.of.ask(x, p);
                is(c.name + ": SIZE in place " + p, x.read(p, 0, 2), c.due);
                is(c.name + ": programs with place " + p, x.count(0), p == 3 ? 1 : 2);
            }
        }
    }

    private static MakersBench withPile(int... places) {
        MakersBench x = wronged(places[0], places[places.length - 1]);
        x.node(B, 0);
        return x;
    }

    // ---- makers

    private static void makers() {
        DUE.topic("a maker");
        for (Call c : OF_MAKER) {
            for (int many = 0; many <= MAKERS; many++) {
                int made = many;
                range(c.name + ", of " + made, 0, made - 1, c.refused, m -> c.of.ask(withMakers(made), m), m -> c.due);
            }
        }
    }

    private static MakersBench withMakers(int many) {
        MakersBench x = new MakersBench();
        for (int m = 0; m < many; m++) {
            addMaker(x, 1, 1);
        }
        put(x, 0, WRONGED);
        return x;
    }

    private static void noTurn() {
        DUE.topic("a maker without turns");
        MakersBench x = withMaker();
        put(x, 0, WRONGED);
        put(x, 1, "a b /");
        is("ofMaker, how many", x.ofMaker(0, -1), 0);
        is("ofMaker", x.ofMaker(0, 0), BAD);
        is("plant", x.plant(0, 0, 0), BAD);
        is("made by none", x.made(0, 0, 0), 5);
        same("what it made", toldPart(x), "- #0 + a #9");
        is("made by one", x.made(0, 0, 1), BAD);
        is("answer", x.answer(0, 0, 1, 0), -10);
        is("answer, FREE", x.answer(0, 1, 1, 0), VOID);
        is("cost", x.cost(0, 0, 1, 0), 5);
        is("fires", x.fires(0, 0, 0), BAD);
        is("never", x.never(0), 0);
        is("differ", x.differ(0, 0, 6), 0);
        is("differ, not SAFE", x.differ(0, 1, 6), NOT);
        is("first", x.first(0, 0, 6), NONE);
        is("first, not SAFE", x.first(0, 1, 6), NOT);
        is("cause", x.cause(0, 0, 1, 0), NOT);
        is("cause, FREE", x.cause(0, 1, 1, 0), NOT);
        is("small", x.small(0, 0, 6), NOT);
        is("small, not SAFE", x.small(0, 1, 6), NOT);
        is("steps", x.steps(), BAD);
        is("least", x.least(0, 0, 1), BAD);
        is("shown, SAFE", x.shown(0, 3, 2, 0), 90);
        is("shown, with a DIFFERENCE", x.shown(0, 3, 2, 1), 0);
        is("its first turn", x.turn(0, 6, 2), 1);
        is("ofMaker then", x.ofMaker(0, 0), 62);
    }

    // ---- sizes and numbers

    private static void bySize() {
        DUE.topic("sizes and numbers");
        range("many", 1, 15, BAD, n -> new MakersBench().many(n), n -> MANY[n]);
        range("nth, n", 1, 15, BAD, n -> new MakersBench().nth(0, n, 0), n -> n);
        for (int n = 1; n <= 15; n++) {
            MakersBench x = new MakersBench();
            put(x, 1, "a");
            is("nth, the first", x.nth(0, n, 0), n);
            same("the first of SIZE " + n, told(x, 0), "neg ".repeat(n - 1) + "#0");
            is("nth, the last", x.nth(0, n, MANY[n] - 1), n);
            same("the last of SIZE " + n, told(x, 0), lastOf(n));
            is("number of the last", x.number(0), MANY[n] - 1);
            long[] wrong = {-1, MANY[n], MANY[n] + 1, Long.MIN_VALUE, Long.MAX_VALUE, -1 - MANY[n], 1L << 62,
                (1L << 62) + 1, 1L << 45, LEAST, Long.MIN_VALUE + 1};
            for (long i : wrong) {
                is("nth, SIZE " + n + ", i " + i, x.nth(1, n, i), BAD);
            }
            same("the place", told(x, 1), "a");
        }
        // Of each NODE of programs of every KIND: its SIZE, and that v is 0 but of NUMBERS.
        for (long i = 0; i < 5105; i += 101) {
            MakersBench x = new MakersBench();
            x.nth(0, 5, i);
            String[] words = told(x, 0).split(" ");
            int[] sizes = new int[words.length];
            is("SIZE of the program " + i, sizes(words, 0, sizes), 5);
            for (int node = 0; node < 5; node++) {
                is("SIZE of the NODE " + node + " of " + i, x.read(0, node, 2), sizes[node]);
                is("v of the NODE " + node + " of " + i, x.read(0, node, 1),
                    words[node].startsWith("#") ? Integer.parseInt(words[node].substring(1)) : 0);
            }
        }
        is("nth, an i whose low bits are right", new MakersBench().nth(0, 1, 1L << 32), BAD);
        is("nth, an i that is no int", new MakersBench().nth(0, 15, 1L << 32), 15);
    }

    /** The last first PART is as large as may be, and the last of its SIZE; b is the last of SIZE 1. */
    private static String lastOf(int n) {
        String[] small = {"", "b", "neg b", "/ b b"};
        return n < small.length ? small[n] : "if " + lastOf(n - 3) + " b b";
    }

    /** Worked out apart from the class: 5 of SIZE 1; else NEG, four KINDS with two PARTS, IF. */
    private static final long[] MANY = {0, 5, 5, 105, 430, 5105, 34755, 348380, 2924605, 28202305, 258968105,
        2503103255L, 23983477380L, 234726648480L, 2302782400430L, 22833227864855L};

    private static void nodes() {
        DUE.topic("node");
        range("KIND", 0, 8, BAD, kind -> ofThree().node(kind, 0), kind -> kind < 3 ? 4 : kind == 3 ? 3 : kind < 8 ? 2 : 1);
        for (int kind = 1; kind <= 8; kind++) {
            int k = kind;
            range("v of KIND " + k, 0, 0, BAD, v -> ofThree().node(k, v), v -> k < 3 ? 4 : k == 3 ? 3 : k < 8 ? 2 : 1);
        }
        for (int v : new int[] {0, 1, -1, 2, 3, 32767, -32769, 65536, MOST, LEAST, LEAST + 1}) {
            MakersBench x = new MakersBench();
            is("NUMBER " + v, x.node(0, v), 1);
            x.keep(0);
            is("v of NUMBER " + v, x.read(0, 0, 1), v);
            is("its VALUE", x.value(0, 5, 6), v);
        }
        int[] parts = {0, 0, 0, 1, 2, 2, 2, 2, 3};
        for (int kind = 0; kind <= 8; kind++) {
            for (int there = 0; there <= 4; there++) {
                MakersBench x = new MakersBench();
                for (int i = 0; i < there; i++) {
                    x.node(A, 0);
                }
                boolean enough = there >= parts[kind];
                is("KIND " + kind + " on " + there, x.node(kind, 0), enough ? there - parts[kind] + 1 : NOT);
                is("nodes then", x.count(3), enough ? there + 1 : there);
            }
        }
    }

    private static MakersBench ofThree() {
        MakersBench x = new MakersBench();
        for (int i = 0; i < 3; i++) {
            x.node(A, 0);
        }
        return x;
    }

    // ---- nodes of a program

    private static void nodesOf() {
        DUE.topic("nodes of a program");
        MakersBench x = withMaker(5, 0);
        put(x, 0, "a #7 + b neg #-2 if");
        put(x, 1, "b");
        int[] kinds = {IF, ADD, A, 0, NEG, B, 0};
        int[] numbers = {0, 0, 0, 7, 0, 0, -2};
        int[] sizes = {7, 3, 1, 1, 2, 1, 1};
        range("read, KIND", 0, 6, VOID, i -> x.read(0, i, 0), i -> kinds[i]);
        range("read, v", 0, 6, VOID, i -> x.read(0, i, 1), i -> numbers[i]);
        range("read, SIZE", 0, 6, VOID, i -> x.read(0, i, 2), i -> sizes[i]);
        range("read, what", 0, 2, VOID, what -> x.read(0, 4, what), what -> what == 0 ? NEG : what == 1 ? 0 : 2);
        range("read, of one NODE", 0, 0, VOID, i -> x.read(1, i, 2), i -> 1);
        is("made", x.made(0, 0, 1), 7);
        range("part, KIND", 0, 6, VOID, i -> x.part(i, 0), i -> kinds[i]);
        range("part, v", 0, 6, VOID, i -> x.part(i, 1), i -> numbers[i]);
        range("part, SIZE", 0, 6, VOID, i -> x.part(i, 2), i -> sizes[i]);
        range("part, what", 0, 2, VOID, what -> x.part(4, what), what -> what == 0 ? NEG : what == 1 ? 0 : 2);
        range("breed, i", 0, 6, BAD, i -> x.breed(2, 0, i, 1, 0), i -> 7 - sizes[i] + 1);
        range("breed, j", 0, 6, BAD, j -> x.breed(2, 1, 0, 0, j), j -> sizes[j]);
        range("breed, i of one NODE", 0, 0, BAD, i -> x.breed(2, 1, i, 0, 0), i -> 7);
        range("breed, j of one NODE", 0, 0, BAD, j -> x.breed(2, 0, 3, 1, j), j -> 7);
        MakersBench large = new MakersBench();
        put(large, 0, chain("b", 60).trim());
        range("read, of 60 NODES", 0, 59, VOID, i -> large.read(0, i, 2), i -> 60 - i);
        range("breed, i of 60 NODES", 0, 59, BAD, i -> large.breed(1, 0, i, 0, 59), i -> i + 1);
        range("breed, j of 60 NODES", 0, 59, BAD, j -> large.breed(1, 0, 0, 0, j), j -> 60 - j);
        range("part, before any made()", 0, -1, VOID, i -> large.part(i, 0), i -> 0);
    }

    // ---- k

    private static void withinK() {
        DUE.topic("k");
        range("safe", 0, 6, BAD, k -> wronged(0).safe(0, k), k -> 1);
        range("differ", 0, 6, BAD, k -> wronged(0).differ(0, 0, k), k -> (2 * k + 1) * (2 * k + 1));
        range("first", 0, 6, BAD, k -> wronged(0).first(0, 0, k), k -> 101 * (6 - k));
        range("small", 0, 6, BAD, k -> wronged(0).small(0, 0, k), k -> 3);
        for (int k = 0; k <= 6; k++) {
            MakersBench x = wronged(0);
            x.small(0, 0, k);
            // For a = 0 alone, 0 LESS a is no DIFFERENCE.
            same("what is small within " + k, told(x, 0), k == 0 ? "- #0 #9" : "- #0 a");
        }
        // Of one that is not SAFE within any k, k is looked at first.
        range("safe, FREE", 0, 6, BAD, k -> free().safe(0, k), k -> 0);
        range("differ, FREE", 0, 6, BAD, k -> free().differ(0, 0, k), k -> NOT);
        range("first, FREE", 0, 6, BAD, k -> free().first(0, 0, k), k -> NOT);
        range("small, FREE", 0, 6, BAD, k -> free().small(0, 0, k), k -> NOT);
        // And so of one without a DIFFERENCE.
        range("differ, none", 0, 6, BAD, k -> right().differ(0, 0, k), k -> 0);
        range("first, none", 0, 6, BAD, k -> right().first(0, 0, k), k -> NONE);
        range("small, none", 0, 6, BAD, k -> right().small(0, 0, k), k -> NOT);
    }

    private static MakersBench free() {
        MakersBench x = withMaker(1, 1);
        put(x, 0, "#0 a b / -");
        return x;
    }

    private static MakersBench right() {
        MakersBench x = withMaker(1, 1);
        put(x, 0, "a #0 +");
        return x;
    }

    // ---- turns

    private static void turnsOf() {
        DUE.topic("turns");
        range("turn, SORT", 0, 6, BAD, sort -> withMaker().turn(0, sort, 0), sort -> 1);
        range("turn, FAULT", 0, 2, BAD, fault -> withMaker().turn(0, 0, fault), fault -> 1);
        range("plant, FAULT", 0, 2, BAD, fault -> withMaker(4, 1).plant(0, 0, fault), fault -> 1);
        for (int many = 1; many <= 10; many++) {
            int n = many;
            range("plant, of " + n, 0, n - 1, BAD, i -> row(n).plant(0, i, 0), i -> i % 3);
            range("ofMaker, of " + n, -1, n - 1, BAD, i -> row(n).ofMaker(0, i), i -> i < 0 ? n : 10 * (i % 7) + i % 3);
            range("made, of " + n, 0, n, BAD, i -> levels(n).made(0, 0, i), i -> 24 - i / 2 * 4 - i % 2 * 3);
            range("fires, of " + n, 0, n - 1, BAD, i -> levels(n).fires(0, 0, i), i -> 1);
            range("least, of " + n, 0, n - 1, BAD, i -> row(n).least(0, i, 1), i -> NONE);
        }
    }

    /** Ten turns at most, all sorts and faults among them. */
    private static MakersBench row(int turns) {
        MakersBench x = withMaker();
        for (int i = 0; i < turns; i++) {
            is("turn", x.turn(0, i % 7, i % 3), i + 1);
        }
        return x;
    }

    /** PICK and FOLD in turn: each takes one IF, or one NEG, from the innermost one on. */
    private static MakersBench levels(int turns) {
        MakersBench x = withMaker();
        for (int i = 0; i < turns; i++) {
            x.turn(0, i % 2 == 0 ? 3 : 0, 0);
        }
        put(x, 0, "#0 #7 #3 if" + " neg #7 #3 if".repeat(5));
        return x;
    }

    // ---- all of a size

    private static void whole() {
        DUE.topic("all of a size");
        // The second PICK fires where FOLD has made a NUMBER of what was none: IF NEG 0, 0, 0.
        range("least, n", 1, 5, BAD, n -> withMaker(3, 0, 0, 0, 3, 0).least(0, 2, n),
            n -> n < 5 ? NONE : 16 * (5105 - 125) + 5);
        range("least, n, of one that fires in SIZE 2", 1, 5, BAD, n -> withMaker(0, 0).least(0, 0, n),
            n -> n < 2 ? NONE : 2);
        int[][] safe = {{5, 5, 5}, {5, 5, 5}, {90, 90, 90}, {385, 385, 385}, {3920, 3880, 3840}};
        int[][] wrong = {{0, 0, 0}, {0, 0, 0}, {2, 6, 6}, {6, 14, 14}, {142, 366, 374}};
        for (int i = 0; i <= 2; i++) {
            int k = i;
            range("shown, n, SAFE within " + k, 1, 5, BAD, n -> withMaker(1, 2).shown(0, n, k, 0), n -> safe[n - 1][k]);
            range("shown, n, within " + k, 1, 5, BAD, n -> withMaker(1, 2).shown(0, n, k, 1), n -> wrong[n - 1][k]);
        }
        range("shown, k, SAFE", 0, 2, BAD, k -> withMaker(1, 2).shown(0, 5, k, 0), k -> safe[4][k]);
        range("shown, k", 0, 2, BAD, k -> withMaker(1, 2).shown(0, 5, k, 1), k -> wrong[4][k]);
        range("shown, what", 0, 1, BAD, what -> withMaker(1, 2).shown(0, 5, 2, what), what -> what == 0 ? 3840 : 374);
        int[] counts = {2, 8, 3, 4, 7};
        range("count", 0, 4, BAD, what -> counted().count(what), what -> counts[what]);
        range("count of a new object", 0, 4, BAD, what -> new MakersBench().count(what), what -> 0);
    }

    /** Two programs with 7 NODES, eight makers, three trees with four NODES. */
    private static MakersBench counted() {
        MakersBench x = new MakersBench();
        put(x, 0, "a");
        put(x, 19, "a b + neg neg neg");
        for (int i = 0; i < MAKERS; i++) {
            x.maker();
        }
        x.node(A, 0);
        x.node(B, 0);
        x.node(NEG, 0);
        x.node(0, 5);
        return x;
    }
}
