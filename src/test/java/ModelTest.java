import java.util.ArrayList;
import java.util.List;
import java.util.Random;

/** Holds the class against Model in runs of at most 512 calls, drawn from fixed seeds. */
public final class ModelTest {
    private static final int MOST_CALLS = 512;
    /** The most calls that one draw makes: 60 NODES for THE PILE and to bring them together, and one to keep. */
    private static final int MOST_DRAWN = 125;
    private static final int[] USUAL = {0, 0, 1, 1, 2, 2, 3, -1, -3, 5, 200, 40000, 2000000000,
        Integer.MAX_VALUE, Integer.MIN_VALUE, -2000000000};

    private final Due due;
    private final Random random;
    private final MakersBench bench = new MakersBench();
    private final Model model = new Model();
    private int calls = 0;

    private ModelTest(Due due, long seed) {
        this.due = due;
        this.random = new Random(seed);
        due.topic("seed " + seed);
    }

    public static void main(String[] args) {
        int runs = args.length > 0 ? Integer.parseInt(args[0]) : 3000;
        Due due = new Due();
        for (int seed = 0; seed < runs && !due.anyWrong(); seed++) {
            new ModelTest(due, seed).run();
            for (int n = -1; n <= 10 && seed % 6 == 0; n++) {
                new ModelTest(due, seed).runLarge(n);
            }
        }
        byNumber(due);
        inOrder(due);
        wholeSizes(due);
        due.end();
    }

    // ---- runs of calls

    private void run() {
        int most = 100 + random.nextInt(MOST_CALLS - MOST_DRAWN - 100);
        while (calls < most && !due.anyWrong()) {
            draw();
        }
        int first = below(20);
        for (int i = 0; i < 20; i++) {
            int place = (first + i) % 20;
            compareTree("read at the end, place " + place, model.places[place], place);
        }
        due.holds("at most 512 calls, not " + calls, calls <= MOST_CALLS);
    }

    /** Whether so many calls more may be made; if so, they are counted. */
    private boolean take(int more) {
        if (calls + more > MOST_CALLS) {
            return false;
        }
        calls += more;
        return true;
    }

    /**
     * Trees that TWICE makes as large as may be, with all kinds in them, and the other sorts behind it. With n from
     * 0 on, what the first n turns make is looked at; else, what can be asked of them all.
     */
    private void runLarge(int n) {
        due.topic("large, " + random.nextInt());
        int doubles = 3 + below(4);
        grow(1 + below(12));
        for (int i = 0; i < doubles; i++) {
            node(0, 2);
            node(6, 0);
        }
        for (int left = 58 - model.count(3); left > 3; left = 58 - model.count(3)) {
            grow(1 + below(Math.min(left - 2, 12)));
            node(below(4) == 0 ? 5 : 4, 0);
        }
        while (model.pile.size() > 1) {
            node(4, 0);
        }
        check("keep(0)", bench.keep(0), model.keep(0));
        check("maker()", bench.maker(), model.maker());
        for (int i = 0; i < 10; i++) {
            int sort = i == 0 || i == 3 ? 5 : below(7), fault = below(2) == 0 ? 0 : below(3);
            check("turn", bench.turn(0, sort, fault), model.turn(0, sort, fault));
        }
        if (n < 0) {
            askLarge();
        } else {
            check("made(0, 0, " + n + ")", bench.made(0, 0, n), model.made(0, 0, n));
            compareFound();
        }
        due.holds("at most 512 calls, not " + calls, calls <= MOST_CALLS);
    }

    private void askLarge() {
        for (int a = -2; a <= 2; a++) {
            check("answer", bench.answer(0, 0, a, 1), model.answer(0, 0, a, 1));
            check("cost", bench.cost(0, 0, a, 1), model.cost(0, 0, a, 1));
            check("cause", bench.cause(0, 0, a, 1), model.cause(0, 0, a, 1));
        }
        for (int i = 0; i < 10; i++) {
            check("fires(0, 0, " + i + ")", bench.fires(0, 0, i), model.fires(0, 0, i));
        }
        check("never(0)", bench.never(0), model.never(0));
        check("first(0, 0, 2)", bench.first(0, 0, 2), model.first(0, 0, 2));
    }

    /** Of a large tree there are not calls enough for v and SIZE of each NODE: the one or the other. */
    private void compareFound() {
        List<Model.Node> nodes = new ArrayList<>();
        Model.list(model.found, nodes);
        for (int i = 0; i < nodes.size() && take(2); i++) {
            due.is("KIND of part " + i, bench.part(i, 0), nodes.get(i).kind());
            int what = 1 + below(2);
            due.is("what " + what + " of part " + i, bench.part(i, what), Model.tell(nodes.get(i), 0, what));
        }
        check("nothing behind", bench.part(nodes.size(), 0), Model.VOID);
    }

    private void check(String call, long got, long want) {
        calls++;
        due.is("call " + calls + ": " + call, got, want);
    }

    private int below(int n) {
        return random.nextInt(n);
    }

    /** Mostly within 0 .. n - 1, now and then just outside or far off. */
    private int near(int n) {
        int off = below(40);
        return off == 0 ? -1 : off == 1 ? n : off == 2 ? Integer.MIN_VALUE : off == 3 ? Integer.MAX_VALUE : below(n);
    }

    private int place() {
        return near(below(4) == 0 ? 20 : 6);
    }

    private int maker() {
        return near(Math.max(1, model.makers.size()));
    }

    private int input() {
        return below(3) == 0 ? USUAL[below(USUAL.length)] : below(13) - 6;
    }

    private int turnOf(int maker) {
        return near(model.mk(maker) == null ? 1 : Math.max(1, model.mk(maker).size()));
    }

    private int nodeOf(int place) {
        return near(model.at(place) == null ? 1 : model.at(place).size());
    }

    private void draw() {
        int what = below(100);
        if (what < 25) {
            build();
        } else if (what < 40) {
            programs();
        } else if (what < 60) {
            makers();
        } else if (what < 75) {
            results();
        } else if (what < 97) {
            differences();
        } else {
            sizes();
        }
    }

    private void node(int kind, int v) {
        check("node(" + kind + ", " + v + ")", bench.node(kind, v), model.node(kind, v));
    }

    /** A whole program now and then, else one node. */
    private void build() {
        if (below(4) == 0) {
            node(near(9), below(20) == 0 ? 7 : 0);
        } else {
            grow(1 + below(below(3) == 0 ? 58 : 14));
        }
        if (model.pile.size() > 1 && below(2) == 0) {
            while (model.pile.size() > 1) {
                int before = model.pile.size();
                node(4 + below(4), 0);
                if (model.pile.size() == before) {
                    break;
                }
            }
        }
        int p = place();
        check("keep(" + p + ")", bench.keep(p), model.keep(p));
    }

    /** Puts a random tree of about this many nodes on the pile. */
    private void grow(int nodes) {
        if (nodes <= 1) {
            int kind = below(5);
            node(kind > 2 ? 0 : kind, kind > 2 || kind == 0 ? USUAL[below(below(3) == 0 ? USUAL.length : 7)] : 0);
            return;
        }
        int kind = nodes == 2 ? 3 : nodes == 3 ? 4 + below(4) : 3 + below(6);
        if (kind == 3) {
            grow(nodes - 1);
        } else if (kind == 8) {
            int x = 1 + below(nodes - 3);
            int y = 1 + below(Math.max(1, nodes - 2 - x));
            grow(x);
            grow(y);
            grow(Math.max(1, nodes - 1 - x - y));
        } else if (below(5) == 0) {
            // The same tree twice, for SAME and MELT.
            long seed = random.nextLong();
            for (int i = 0; i < 2; i++) {
                regrow(new Random(seed), (nodes - 1) / 2);
            }
        } else {
            int x = below(3) == 0 ? 1 : 1 + below(nodes - 2);
            grow(x);
            grow(nodes - 1 - x);
        }
        node(kind, 0);
    }

    private void regrow(Random same, int nodes) {
        if (nodes <= 1) {
            int kind = same.nextInt(3);
            node(kind, kind == 0 ? same.nextInt(4) : 0);
        } else if (nodes == 2) {
            regrow(same, 1);
            node(3, 0);
        } else {
            int x = 1 + same.nextInt(nodes - 2);
            regrow(same, x);
            regrow(same, nodes - 1 - x);
            node(4 + same.nextInt(4), 0);
        }
    }

    private void programs() {
        int p = place();
        switch (below(8)) {
            case 0: {
                int n = below(30) == 0 ? near(16) : 1 + below(15);
                long all = model.many(n);
                long i = below(20) == 0 ? all : below(20) == 0 ? -1 : (long) (random.nextDouble() * all);
                boolean right = p >= 0 && p < 20 && all > 0 && i >= 0 && i < all;
                check("nth(" + p + ", " + n + ", " + i + ")", bench.nth(p, n, i), right ? n : -1);
                if (right) {
                    model.places[p] = readTree(p);
                    calls += 2 * model.places[p].size();
                    check("number(" + p + ")", bench.number(p), i);
                    check("SIZE", model.places[p].size(), n);
                }
                break;
            }
            case 1:
                check("drop(" + p + ")", bench.drop(p), model.drop(p));
                break;
            case 2: case 3: {
                int i = nodeOf(p);
                int w = near(3);
                check("read(" + p + ", " + i + ", " + w + ")", bench.read(p, i, w), model.read(p, i, w));
                break;
            }
            case 4: {
                int a = input(), b = input();
                check("value(" + p + ", " + a + ", " + b + ")", bench.value(p, a, b), model.value(p, a, b));
                break;
            }
            case 5: {
                int k = near(7);
                check("safe(" + p + ", " + k + ")", bench.safe(p, k), model.safe(p, k));
                break;
            }
            default: {
                int f = place(), s = place(), i = nodeOf(f), j = nodeOf(s);
                check("breed(" + p + ", " + f + ", " + i + ", " + s + ", " + j + ")",
                    bench.breed(p, f, i, s, j), model.breed(p, f, i, s, j));
                compareTree("what was bred", model.at(p), p);
                break;
            }
        }
    }

    private void makers() {
        int m = maker();
        switch (below(12)) {
            case 0:
                check("maker()", bench.maker(), model.maker());
                break;
            case 1: case 2: {
                int t = turnOf(m), f = near(3);
                check("plant(" + m + ", " + t + ", " + f + ")", bench.plant(m, t, f), model.plant(m, t, f));
                break;
            }
            case 3: {
                int t = below(3) == 0 ? -1 : turnOf(m);
                check("ofMaker(" + m + ", " + t + ")", bench.ofMaker(m, t), model.ofMaker(m, t));
                break;
            }
            case 4: {
                int w = near(5);
                check("count(" + w + ")", bench.count(w), model.count(w));
                break;
            }
            default: {
                int s = near(7), f = near(3);
                check("turn(" + m + ", " + s + ", " + f + ")", bench.turn(m, s, f), model.turn(m, s, f));
                break;
            }
        }
    }

    private void results() {
        int m = maker(), p = place(), a = input(), b = input();
        switch (below(6)) {
            case 0: case 1: {
                int n = model.mk(m) == null ? 0 : near(model.mk(m).size() + 1);
                check("made(" + m + ", " + p + ", " + n + ")", bench.made(m, p, n), model.made(m, p, n));
                for (int i = 0; model.found != null && i <= model.found.size() && take(4); i++) {
                    for (int w = 0; w < 4; w++) {
                        due.is("part(" + i + ", " + w + ")", bench.part(i, w), model.part(i, w));
                    }
                }
                break;
            }
            case 2:
                check("answer(" + m + ", " + p + ", " + a + ", " + b + ")", bench.answer(m, p, a, b), model.answer(m, p, a, b));
                break;
            case 3:
                check("cost(" + m + ", " + p + ", " + a + ", " + b + ")", bench.cost(m, p, a, b), model.cost(m, p, a, b));
                break;
            case 4: {
                int i = turnOf(m);
                check("fires(" + m + ", " + p + ", " + i + ")", bench.fires(m, p, i), model.fires(m, p, i));
                break;
            }
            default:
                check("never(" + m + ")", bench.never(m), model.never(m));
                break;
        }
    }

    private void differences() {
        int m = maker(), p = place(), k = near(7);
        switch (below(8)) {
            case 0: case 1:
                check("differ(" + m + ", " + p + ", " + k + ")", bench.differ(m, p, k), model.differ(m, p, k));
                break;
            case 2: case 3:
                check("first(" + m + ", " + p + ", " + k + ")", bench.first(m, p, k), model.first(m, p, k));
                break;
            case 4: case 5: {
                int a = input(), b = input();
                check("cause(" + m + ", " + p + ", " + a + ", " + b + ")", bench.cause(m, p, a, b), model.cause(m, p, a, b));
                break;
            }
            case 6: {
                int few = Math.min(k, 3);
                check("small(" + m + ", " + p + ", " + few + ")", bench.small(m, p, few), model.small(m, p, few));
                compareTree("what was made small", model.at(p), p);
                break;
            }
            default:
                check("steps()", bench.steps(), model.steps());
                break;
        }
    }

    private void sizes() {
        int m = maker();
        if (below(2) == 0) {
            int t = turnOf(m), n = below(8) == 0 ? near(7) : 1 + below(4);
            check("least(" + m + ", " + t + ", " + n + ")", bench.least(m, t, n), model.least(m, t, n));
        } else {
            int n = below(8) == 0 ? near(7) : 1 + below(4), k = near(3), w = near(2);
            check("shown(" + m + ", " + n + ", " + k + ", " + w + ")", bench.shown(m, n, k, w), model.shown(m, n, k, w));
        }
    }

    // ---- trees

    private Model.Node readTree(int place) {
        return readTree(bench, place, new int[] {0});
    }

    private static Model.Node readTree(MakersBench bench, int place, int[] at) {
        int kind = bench.read(place, at[0], 0);
        int v = bench.read(place, at[0], 1);
        at[0]++;
        List<Model.Node> parts = new ArrayList<>();
        for (int i = 0; i < Model.partsOf(kind); i++) {
            parts.add(readTree(bench, place, at));
        }
        return new Model.Node(kind, v, parts);
    }

    private void compareTree(String what, Model.Node tree, int place) {
        int size = tree == null ? 0 : tree.size();
        for (int i = 0; i <= size && take(3); i++) {
            for (int w = 0; w < 3; w++) {
                due.is(what + ", NODE " + i + ", what " + w, bench.read(place, i, w), Model.tell(tree, i, w));
            }
        }
    }

    // ---- all of a size

    /** Every program of the small sizes, both ways. */
    private static void byNumber(Due due) {
        due.topic("by number");
        MakersBench bench = new MakersBench();
        Model model = new Model();
        for (int n = -1; n <= 17; n++) {
            due.is("many(" + n + ")", bench.many(n), model.many(n));
        }
        for (int n = 1; n <= 5; n++) {
            List<Model.Node> all = Model.all(n);
            due.is("many(" + n + ")", bench.many(n), all.size());
            for (int i = 0; i < all.size(); i++) {
                bench = new MakersBench();
                due.is("nth(0, " + n + ", " + i + ")", bench.nth(0, n, i), n);
                due.holds("the program " + i + " of " + n, readTree(bench, 0, new int[] {0}).equals(all.get(i)));
                due.is("number(0)", bench.number(0), i);
            }
        }
    }

    /** Of larger sizes: a lower number comes first, and the way back leads to it. */
    private static void inOrder(Due due) {
        due.topic("in order");
        MakersBench bench = new MakersBench();
        Random random = new Random(7);
        for (int n = 6; n <= 15; n++) {
            long all = bench.many(n);
            for (int round = 0; round < 400; round++) {
                bench = new MakersBench();
                long i = round == 0 ? 0 : (long) (random.nextDouble() * (all - 1));
                long j = round < 200 ? i + 1 : i + 1 + (long) (random.nextDouble() * (all - 1 - i));
                bench.nth(0, n, i);
                bench.nth(1, n, j);
                due.is("number of " + i, bench.number(0), i);
                due.is("number of " + j, bench.number(1), j);
                Model.Node x = readTree(bench, 0, new int[] {0});
                Model.Node y = readTree(bench, 1, new int[] {0});
                due.holds(i + " ahead of " + j + " of SIZE " + n, Model.compare(x, y) < 0);
            }
            bench.nth(0, n, all - 1);
            due.is("number of the last of " + n, bench.number(0), all - 1);
        }
    }

    /** least() and shown() over every sort and fault, up to the largest size. */
    private static void wholeSizes(Due due) {
        due.topic("whole sizes");
        for (int sort = 0; sort < 7; sort++) {
            for (int fault = 0; fault < 3; fault++) {
                MakersBench bench = new MakersBench();
                Model model = new Model();
                bench.maker();
                model.maker();
                int[] ahead = {(sort + 3) % 7, (sort + 5) % 7};
                for (int a : ahead) {
                    bench.turn(0, a, 0);
                    model.turn(0, a, 0);
                }
                bench.turn(0, sort, fault);
                model.turn(0, sort, fault);
                String who = "sort " + sort + ", fault " + fault + ": ";
                due.is(who + "least(0, 2, 5)", bench.least(0, 2, 5), model.least(0, 2, 5));
                due.is(who + "shown(0, 4, 2, 1)", bench.shown(0, 4, 2, 1), model.shown(0, 4, 2, 1));
                if (fault == 1) {
                    due.is(who + "shown(0, 5, 1, 1)", bench.shown(0, 5, 1, 1), model.shown(0, 5, 1, 1));
                }
            }
        }
        MakersBench bench = new MakersBench();
        Model model = new Model();
        bench.maker();
        model.maker();
        for (int n = 1; n <= 5; n++) {
            for (int k = 0; k <= 2; k++) {
                due.is("shown(0, " + n + ", " + k + ", 0)", bench.shown(0, n, k, 0), model.shown(0, n, k, 0));
                due.is("shown(0, " + n + ", " + k + ", 1)", bench.shown(0, n, k, 1), 0);
            }
        }
    }
}
