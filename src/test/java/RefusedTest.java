import java.util.LinkedHashMap;
import java.util.List;
import java.util.Map;
import java.util.TreeSet;
import java.util.function.Supplier;
import java.util.function.ToLongFunction;

/**
 * What is answered with BAD, NOT, FULL or VOID changes nothing, nor does a call that only asks; and what a call does
 * change is what its promise says, and no more. All that can be asked of an object is held against an object that
 * was made the same way but for that call; each object is used for less than 512 calls.
 */
public final class RefusedTest extends Trial {
    private static final int PLACES = 20;
    private static final int MAKERS = 8;
    /** Where the pile goes when all is looked at; nothing else is kept there. */
    private static final int LAST = 17;

    private static Supplier<MakersBench> start;
    private static Map<String, String> before;

    public static void main(String[] args) {
        from("a new object", MakersBench::new);
        ofNothing();
        from("in use", RefusedTest::inUse);
        refusedPrograms();
        refusedMakers();
        refusedDifferences();
        refusedSizes();
        askedOnly();
        changed();
        from("a full pile", RefusedTest::fullPile);
        fullOfNodes();
        DUE.end();
    }

    private static void from(String topic, Supplier<MakersBench> state) {
        DUE.topic(topic);
        start = state;
        before = all(state.get());
    }

    /**
     * Eight makers, the first one with ten turns; programs, one not SAFE, one large; THE PILE has two trees; made()
     * found three NODES, small() did two STEPS.
     */
    private static MakersBench inUse() {
        MakersBench x = withPrograms();
        x.node(A, 0);
        x.node(B, 0);
        x.node(NEG, 0);
        return x;
    }

    private static MakersBench fullPile() {
        MakersBench x = withPrograms();
        x.node(0, 77);
        for (int i = 2; i <= 60; i++) {
            x.node(NEG, 0);
        }
        return x;
    }

    private static MakersBench withPrograms() {
        MakersBench x = new MakersBench();
        addMaker(x, 1, 1, 0, 1, 6, 2, 3, 0, 4, 0, 5, 0, 6, 0, 0, 0, 1, 0, 2, 0);
        x.maker();
        for (int m = 2; m < MAKERS; m++) {
            addMaker(x, 5, m % 3);
        }
        put(x, 0, "#0 a -");
        put(x, 1, "a b /");
        put(x, 2, chain("a", 31).trim());
        put(x, 3, "a #1 +");
        put(x, 19, "b");
        put(x, 5, "#0 a - neg neg");
        x.small(0, 5, 1);
        x.made(1, 0, 0);
        return x;
    }

    /** All that can be asked. THE PILE is put into one place at last, its trees under ADD. */
    private static Map<String, String> all(MakersBench x) {
        Map<String, String> out = new LinkedHashMap<>();
        for (int what = 0; what < 5; what++) {
            out.put("count " + what, "" + x.count(what));
        }
        for (int m = 0; m < MAKERS; m++) {
            StringBuilder turns = new StringBuilder();
            for (int i = -1; i < 10 && x.ofMaker(m, i) != BAD; i++) {
                turns.append(" ").append(x.ofMaker(m, i));
            }
            out.put("maker " + m, turns.toString());
        }
        out.put("steps", "" + x.steps());
        out.put("part", toldPart(x));
        for (int place = 0; place < PLACES; place++) {
            if (place != LAST) {
                out.put("place " + place, nodes(x, place));
            }
        }
        for (int trees = x.count(2); trees > 1; trees--) {
            x.node(ADD, 0);
        }
        out.put("pile", x.keep(LAST) + ":" + nodes(x, LAST));
        return out;
    }

    private static String nodes(MakersBench x, int place) {
        StringBuilder out = new StringBuilder();
        int kind = x.read(place, 0, 0);
        for (int i = 0; i < 61 && kind != VOID; i++) {
            word(out, kind, kind == 0 ? x.read(place, i, 1) : 0);
            kind = x.read(place, i + 1, 0);
        }
        return out.toString();
    }

    /** The call is answered so, and just these have changed. */
    private static void changes(String call, long want, ToLongFunction<MakersBench> ask, String... what) {
        MakersBench x = start.get();
        is(call, ask.applyAsLong(x), want);
        Map<String, String> after = all(x);
        TreeSet<String> changed = new TreeSet<>();
        for (String key : after.keySet()) {
            if (!after.get(key).equals(before.get(key))) {
                changed.add(key);
            }
        }
        changed.addAll(before.keySet().stream().filter(key -> !after.containsKey(key)).toList());
        same("what has changed by " + call, changed.toString(), new TreeSet<>(List.of(what)).toString());
    }

    private static void nothing(String call, long want, ToLongFunction<MakersBench> ask) {
        changes(call, want, ask);
    }

    private static void ofNothing() {
        nothing("keep(0)", NOT, x -> x.keep(0));
        nothing("keep(20)", BAD, x -> x.keep(20));
        for (int kind = NEG; kind <= IF; kind++) {
            int k = kind;
            nothing("node(" + k + ", 0)", NOT, x -> x.node(k, 0));
            nothing("node(" + k + ", 1)", BAD, x -> x.node(k, 1));
        }
        nothing("node(1, 1)", BAD, x -> x.node(1, 1));
        nothing("drop(0)", BAD, x -> x.drop(0));
        nothing("nth(0, 1, 5)", BAD, x -> x.nth(0, 1, 5));
        nothing("breed(0, 0, 0, 0, 0)", BAD, x -> x.breed(0, 0, 0, 0, 0));
        nothing("turn(0, 0, 0)", BAD, x -> x.turn(0, 0, 0));
        nothing("plant(0, 0, 0)", BAD, x -> x.plant(0, 0, 0));
        nothing("made(0, 0, 0)", BAD, x -> x.made(0, 0, 0));
        nothing("part(0, 0)", VOID, x -> x.part(0, 0));
        nothing("small(0, 0, 0)", BAD, x -> x.small(0, 0, 0));
        nothing("steps()", BAD, x -> x.steps());
        nothing("never(0)", BAD, x -> x.never(0));
        nothing("least(0, 0, 5)", BAD, x -> x.least(0, 0, 5));
        nothing("shown(0, 5, 2, 1)", BAD, x -> x.shown(0, 5, 2, 1));
    }

    private static void refusedPrograms() {
        nothing("many(0)", BAD, x -> x.many(0));
        nothing("many(16)", BAD, x -> x.many(16));
        nothing("nth(-1, 1, 0)", BAD, x -> x.nth(-1, 1, 0));
        nothing("nth(20, 1, 0)", BAD, x -> x.nth(20, 1, 0));
        nothing("nth(0, 0, 0)", BAD, x -> x.nth(0, 0, 0));
        nothing("nth(0, 16, 0)", BAD, x -> x.nth(0, 16, 0));
        nothing("nth(0, 1, -1)", BAD, x -> x.nth(0, 1, -1));
        nothing("nth(0, 3, 105)", BAD, x -> x.nth(0, 3, 105));
        nothing("nth(7, 3, 105)", BAD, x -> x.nth(7, 3, 105));
        nothing("number(7)", BAD, x -> x.number(7));
        nothing("number(2)", NOT, x -> x.number(2));
        nothing("node(-1, 0)", BAD, x -> x.node(-1, 0));
        nothing("node(9, 0)", BAD, x -> x.node(9, 0));
        nothing("node(3, 1)", BAD, x -> x.node(3, 1));
        nothing("node(8, 0)", NOT, x -> x.node(8, 0));
        nothing("keep(-1)", BAD, x -> x.keep(-1));
        nothing("keep(20)", BAD, x -> x.keep(20));
        nothing("keep(0)", NOT, x -> x.keep(0));
        nothing("keep(7)", NOT, x -> x.keep(7));
        nothing("drop(-1)", BAD, x -> x.drop(-1));
        nothing("drop(20)", BAD, x -> x.drop(20));
        nothing("drop(7)", BAD, x -> x.drop(7));
        nothing("read(7, 0, 0)", VOID, x -> x.read(7, 0, 0));
        nothing("read(0, 3, 0)", VOID, x -> x.read(0, 3, 0));
        nothing("read(0, 0, 3)", VOID, x -> x.read(0, 0, 3));
        nothing("value(7, 0, 0)", VOID, x -> x.value(7, 0, 0));
        nothing("value(1, 0, 0)", VOID, x -> x.value(1, 0, 0));
        nothing("safe(0, 7)", BAD, x -> x.safe(0, 7));
        nothing("safe(7, 0)", BAD, x -> x.safe(7, 0));
        nothing("breed(20, 0, 0, 3, 0)", BAD, x -> x.breed(20, 0, 0, 3, 0));
        nothing("breed(0, 7, 0, 3, 0)", BAD, x -> x.breed(0, 7, 0, 3, 0));
        nothing("breed(0, 3, 0, 7, 0)", BAD, x -> x.breed(0, 3, 0, 7, 0));
        nothing("breed(0, 3, 3, 3, 0)", BAD, x -> x.breed(0, 3, 3, 3, 0));
        nothing("breed(0, 3, 0, 3, -1)", BAD, x -> x.breed(0, 3, 0, 3, -1));
        nothing("breed(2, 2, 30, 2, 0)", FULL, x -> x.breed(2, 2, 30, 2, 0));
        nothing("breed(7, 2, 30, 2, 0)", FULL, x -> x.breed(7, 2, 30, 2, 0));
        nothing("count(5)", BAD, x -> x.count(5));
    }

    private static void refusedMakers() {
        nothing("maker()", FULL, x -> x.maker());
        nothing("turn(0, 0, 0)", FULL, x -> x.turn(0, 0, 0));
        nothing("turn(1, 7, 0)", BAD, x -> x.turn(1, 7, 0));
        nothing("turn(1, -1, 0)", BAD, x -> x.turn(1, -1, 0));
        nothing("turn(1, 0, 3)", BAD, x -> x.turn(1, 0, 3));
        nothing("turn(1, 0, -1)", BAD, x -> x.turn(1, 0, -1));
        nothing("turn(8, 0, 0)", BAD, x -> x.turn(8, 0, 0));
        nothing("plant(0, 0, 3)", BAD, x -> x.plant(0, 0, 3));
        nothing("plant(0, 0, -1)", BAD, x -> x.plant(0, 0, -1));
        nothing("plant(0, 10, 0)", BAD, x -> x.plant(0, 10, 0));
        nothing("plant(1, 0, 0)", BAD, x -> x.plant(1, 0, 0));
        nothing("plant(8, 0, 0)", BAD, x -> x.plant(8, 0, 0));
        nothing("made(0, 3, 11)", BAD, x -> x.made(0, 3, 11));
        nothing("made(0, 3, -1)", BAD, x -> x.made(0, 3, -1));
        nothing("made(0, 7, 0)", BAD, x -> x.made(0, 7, 0));
        nothing("made(8, 3, 0)", BAD, x -> x.made(8, 3, 0));
        nothing("part(3, 0)", VOID, x -> x.part(3, 0));
        nothing("part(0, 3)", VOID, x -> x.part(0, 3));
        nothing("answer(8, 0, 0, 0)", VOID, x -> x.answer(8, 0, 0, 0));
        nothing("answer(0, 7, 0, 0)", VOID, x -> x.answer(0, 7, 0, 0));
        nothing("answer(0, 1, 0, 0)", VOID, x -> x.answer(0, 1, 0, 0));
        nothing("cost(8, 0, 0, 0)", BAD, x -> x.cost(8, 0, 0, 0));
        nothing("cost(0, 7, 0, 0)", BAD, x -> x.cost(0, 7, 0, 0));
        nothing("fires(0, 0, 10)", BAD, x -> x.fires(0, 0, 10));
        nothing("fires(1, 0, 0)", BAD, x -> x.fires(1, 0, 0));
        nothing("fires(0, 7, 0)", BAD, x -> x.fires(0, 7, 0));
        nothing("never(8)", BAD, x -> x.never(8));
        nothing("ofMaker(0, 10)", BAD, x -> x.ofMaker(0, 10));
        nothing("ofMaker(0, -2)", BAD, x -> x.ofMaker(0, -2));
        nothing("ofMaker(8, -1)", BAD, x -> x.ofMaker(8, -1));
    }

    private static void refusedDifferences() {
        nothing("differ(0, 0, 7)", BAD, x -> x.differ(0, 0, 7));
        nothing("differ(0, 7, 1)", BAD, x -> x.differ(0, 7, 1));
        nothing("differ(0, 1, 1)", NOT, x -> x.differ(0, 1, 1));
        nothing("first(0, 0, 7)", BAD, x -> x.first(0, 0, 7));
        nothing("first(8, 0, 1)", BAD, x -> x.first(8, 0, 1));
        nothing("first(0, 1, 1)", NOT, x -> x.first(0, 1, 1));
        nothing("first(0, 3, 1)", NONE, x -> x.first(0, 3, 1));
        nothing("cause(8, 0, 1, 1)", BAD, x -> x.cause(8, 0, 1, 1));
        nothing("cause(0, 1, 1, 0)", NOT, x -> x.cause(0, 1, 1, 0));
        nothing("cause(0, 3, 1, 1)", NOT, x -> x.cause(0, 3, 1, 1));
        nothing("small(0, 0, 7)", BAD, x -> x.small(0, 0, 7));
        nothing("small(0, 0, -1)", BAD, x -> x.small(0, 0, -1));
        nothing("small(8, 0, 1)", BAD, x -> x.small(8, 0, 1));
        nothing("small(0, 7, 1)", BAD, x -> x.small(0, 7, 1));
        nothing("small(0, 0, 0)", NOT, x -> x.small(0, 0, 0));
        nothing("small(0, 1, 1)", NOT, x -> x.small(0, 1, 1));
        nothing("small(0, 3, 6)", NOT, x -> x.small(0, 3, 6));
        nothing("small(1, 0, 1)", NOT, x -> x.small(1, 0, 1));
    }

    private static void refusedSizes() {
        nothing("least(0, 10, 5)", BAD, x -> x.least(0, 10, 5));
        nothing("least(0, 0, 6)", BAD, x -> x.least(0, 0, 6));
        nothing("least(0, 0, 0)", BAD, x -> x.least(0, 0, 0));
        nothing("least(1, 0, 5)", BAD, x -> x.least(1, 0, 5));
        nothing("least(0, 0, 1)", NONE, x -> x.least(0, 0, 1));
        nothing("shown(0, 0, 0, 0)", BAD, x -> x.shown(0, 0, 0, 0));
        nothing("shown(0, 6, 0, 0)", BAD, x -> x.shown(0, 6, 0, 0));
        nothing("shown(0, 1, 3, 0)", BAD, x -> x.shown(0, 1, 3, 0));
        nothing("shown(0, 1, 0, 2)", BAD, x -> x.shown(0, 1, 0, 2));
        nothing("shown(8, 1, 0, 0)", BAD, x -> x.shown(8, 1, 0, 0));
    }

    private static void askedOnly() {
        nothing("many(15)", 22833227864855L, x -> x.many(15));
        nothing("number(0)", 33, x -> x.number(0));
        nothing("read(2, 30, 0)", A, x -> x.read(2, 30, 0));
        nothing("value(0, 4, 0)", -4, x -> x.value(0, 4, 0));
        nothing("safe(2, 6)", 1, x -> x.safe(2, 6));
        nothing("safe(1, 6)", 0, x -> x.safe(1, 6));
        nothing("part(2, 0)", A, x -> x.part(2, 0));
        nothing("answer(0, 0, 4, 0)", 4, x -> x.answer(0, 0, 4, 0));
        nothing("cost(0, 2, 4, 0)", 1, x -> x.cost(0, 2, 4, 0));
        nothing("fires(0, 2, 2)", 15, x -> x.fires(0, 2, 2));
        nothing("never(2)", 1, x -> x.never(2));
        nothing("differ(0, 0, 1)", 6, x -> x.differ(0, 0, 1));
        nothing("first(0, 0, 1)", 505, x -> x.first(0, 0, 1));
        nothing("cause(0, 0, 1, 0)", 0, x -> x.cause(0, 0, 1, 0));
        nothing("steps()", 2, x -> x.steps());
        nothing("least(0, 0, 5)", 83, x -> x.least(0, 0, 5));
        nothing("shown(0, 3, 2, 0)", 90, x -> x.shown(0, 3, 2, 0));
        nothing("shown(1, 5, 2, 1)", 0, x -> x.shown(1, 5, 2, 1));
        nothing("count(4)", 3 + 3 + 31 + 3 + 1 + 3, x -> x.count(4));
        nothing("ofMaker(0, 2)", 62, x -> x.ofMaker(0, 2));
    }

    private static void changed() {
        String more = "count 0", nodes = "count 4";
        changes("nth(7, 2, 4)", 2, x -> x.nth(7, 2, 4), more, nodes, "place 7");
        changes("nth(2, 2, 4)", 2, x -> x.nth(2, 2, 4), nodes, "place 2");
        changes("nth(0, 3, 33)", 3, x -> x.nth(0, 3, 33));
        changes("node(1, 0)", 3, x -> x.node(1, 0), "count 2", "count 3", "pile");
        changes("node(3, 0)", 2, x -> x.node(3, 0), "count 3", "pile");
        changes("node(6, 0)", 1, x -> x.node(6, 0), "count 2", "count 3", "pile");
        changes("node, keep", 4, x -> x.node(6, 0) + x.keep(7) - 1, "count 2", "count 3", "pile", more, nodes,
            "place 7");
        changes("drop(2)", 31, x -> x.drop(2), more, nodes, "place 2");
        changes("drop(0)", 3, x -> x.drop(0), more, nodes, "place 0");
        changes("breed(7, 0, 2, 3, 0)", 5, x -> x.breed(7, 0, 2, 3, 0), more, nodes, "place 7");
        changes("breed(0, 0, 2, 3, 0)", 5, x -> x.breed(0, 0, 2, 3, 0), nodes, "place 0");
        changes("breed(3, 0, 2, 3, 0)", 5, x -> x.breed(3, 0, 2, 3, 0), nodes, "place 3");
        changes("breed(0, 0, 0, 0, 0)", 3, x -> x.breed(0, 0, 0, 0, 0));
        changes("turn(1, 0, 0)", 1, x -> x.turn(1, 0, 0), "maker 1");
        changes("turn(7, 6, 2)", 2, x -> x.turn(7, 6, 2), "maker 7");
        changes("plant(0, 9, 2)", 0, x -> x.plant(0, 9, 2), "maker 0");
        changes("plant(0, 0, 1)", 1, x -> x.plant(0, 0, 1));
        changes("made(0, 3, 0)", 3, x -> x.made(0, 3, 0), "part");
        changes("made(0, 2, 10)", 1, x -> x.made(0, 2, 10), "part");
        changes("small(0, 0, 1)", 3, x -> x.small(0, 0, 1), "steps");
        changes("nth, small", 3, x -> x.nth(0, 4, 33) - 4 + x.small(0, 0, 1), "steps");
        changes("breed, small", 3, x -> x.breed(3, 3, 0, 0, 0) - 3 + x.small(0, 3, 1), "steps", "place 3");
    }

    private static void fullOfNodes() {
        for (int kind = 0; kind <= IF; kind++) {
            int k = kind;
            nothing("node(" + k + ", 0)", k <= NEG ? FULL : NOT, x -> x.node(k, 0));
            nothing("node(" + k + ", 1)", k == 0 ? FULL : BAD, x -> x.node(k, 1));
        }
        nothing("node(9, 0)", BAD, x -> x.node(9, 0));
        nothing("keep(20)", BAD, x -> x.keep(20));
        changes("keep(7)", 60, x -> x.keep(7), "count 0", "count 2", "count 3", "count 4", "pile", "place 7");
        changes("keep(0)", 60, x -> x.keep(0), "count 2", "count 3", "count 4", "pile", "place 0");
    }
}
