import java.util.ArrayList;
import java.util.List;

/**
 * The document once more, written as plainly as can be: trees as objects, recursion, no care for speed.
 * ModelTest holds the class against it.
 */
final class Model {
    static final int BAD = -1, NOT = -2, FULL = -3, VOID = -2000000000;

    /** A NODE with its PARTS; never changed. */
    record Node(int kind, int v, List<Node> parts) {
        int size() {
            int n = 1;
            for (Node p : parts) {
                n += p.size();
            }
            return n;
        }

        Node part(int i) {
            return parts.get(i);
        }

        boolean is(int number) {
            return kind == 0 && v == number;
        }
    }

    static Node leaf(int kind, int v) {
        return new Node(kind, v, List.of());
    }

    static Node of(int kind, Node... parts) {
        return new Node(kind, 0, List.of(parts));
    }

    static int partsOf(int kind) {
        return kind < 3 ? 0 : kind == 3 ? 1 : kind < 8 ? 2 : 3;
    }

    // ---- value, code

    /** What is FREE. */
    static final class Free extends RuntimeException {
        private static final long serialVersionUID = 1L;
    }

    static int eval(Node t, int a, int b) {
        switch (t.kind) {
            case 0: return t.v;
            case 1: return a;
            case 2: return b;
            case 3: return -eval(t.part(0), a, b);
            case 8: return eval(t.part(0), a, b) != 0 ? eval(t.part(1), a, b) : eval(t.part(2), a, b);
            default: return work(t.kind, eval(t.part(0), a, b), eval(t.part(1), a, b));
        }
    }

    static int work(int kind, int x, int y) {
        if (kind == 7 && y == 0) {
            throw new Free();
        }
        return kind == 4 ? x + y : kind == 5 ? x - y : kind == 6 ? x * y : x / y;
    }

    /** null: FREE. */
    static Integer valueOf(Node t, int a, int b) {
        try {
            return eval(t, a, b);
        } catch (Free f) {
            return null;
        }
    }

    /** Counts orders into done[0]; gives the value. */
    static int walk(Node t, int a, int b, int[] done) {
        if (t.kind < 3) {
            done[0]++;
            return eval(t, a, b);
        }
        int x = walk(t.part(0), a, b, done);
        if (t.kind == 8) {
            done[0]++;
            if (x == 0) {
                return walk(t.part(2), a, b, done);
            }
            int y = walk(t.part(1), a, b, done);
            done[0]++;
            return y;
        }
        if (t.kind == 3) {
            done[0]++;
            return -x;
        }
        int y = walk(t.part(1), a, b, done);
        done[0]++;
        return work(t.kind, x, y);
    }

    static int costOf(Node t, int a, int b) {
        int[] done = {0};
        try {
            walk(t, a, b, done);
        } catch (Free f) {
            return done[0];
        }
        return done[0];
    }

    static boolean isSafe(Node t, int k) {
        for (int a = -k; a <= k; a++) {
            for (int b = -k; b <= k; b++) {
                if (valueOf(t, a, b) == null) {
                    return false;
                }
            }
        }
        return true;
    }

    // ---- by number

    static List<Node> all(int n) {
        List<Node> out = new ArrayList<>();
        if (n == 1) {
            out.add(leaf(0, 0));
            out.add(leaf(0, 1));
            out.add(leaf(0, 2));
            out.add(leaf(1, 0));
            out.add(leaf(2, 0));
            return out;
        }
        for (Node x : all(n - 1)) {
            out.add(of(3, x));
        }
        for (int kind = 4; kind <= 7; kind++) {
            for (int s = 1; s < n - 1; s++) {
                for (Node x : all(s)) {
                    for (Node y : all(n - 1 - s)) {
                        out.add(of(kind, x, y));
                    }
                }
            }
        }
        for (int s = 1; s < n - 2; s++) {
            for (Node x : all(s)) {
                for (int u = 1; u < n - 1 - s; u++) {
                    for (Node y : all(u)) {
                        for (Node z : all(n - 1 - s - u)) {
                            out.add(of(8, x, y, z));
                        }
                    }
                }
            }
        }
        return out;
    }

    /** The order of two programs of one SIZE. */
    static int compare(Node x, Node y) {
        if (x.kind != y.kind) {
            return Integer.compare(x.kind, y.kind);
        }
        if (x.kind == 0) {
            return Integer.compare(x.v, y.v);
        }
        for (int i = 0; i < x.parts.size(); i++) {
            int bySize = Integer.compare(x.part(i).size(), y.part(i).size());
            int c = bySize != 0 ? bySize : compare(x.part(i), y.part(i));
            if (c != 0) {
                return c;
            }
        }
        return 0;
    }

    // ---- nodes in the order of STEPS

    static void list(Node t, List<Node> out) {
        out.add(t);
        for (Node p : t.parts) {
            list(p, out);
        }
    }

    static Node nodeAt(Node t, int i) {
        List<Node> nodes = new ArrayList<>();
        list(t, nodes);
        return i >= 0 && i < nodes.size() ? nodes.get(i) : null;
    }

    static Node replace(Node t, int i, Node by) {
        if (i == 0) {
            return by;
        }
        List<Node> parts = new ArrayList<>();
        int at = 1;
        for (Node p : t.parts) {
            int size = p.size();
            parts.add(i >= at && i < at + size ? replace(p, i - at, by) : p);
            at += size;
        }
        return new Node(t.kind, t.v, parts);
    }

    // ---- turns

    /** One TURN over a tree; total is the SIZE of the whole tree as it is by then. */
    static final class Pass {
        final int sort;
        final int fault;
        int total;
        int fired = 0;

        Pass(int sort, int fault, Node t) {
            this.sort = sort;
            this.fault = fault;
            this.total = t.size();
        }

        Node go(Node t) {
            List<Node> parts = new ArrayList<>();
            for (Node p : t.parts) {
                parts.add(go(p));
            }
            Node now = new Node(t.kind, t.v, parts);
            Node turned = fit(now);
            if (turned == null) {
                return now;
            }
            fired++;
            total += turned.size() - now.size();
            return turned;
        }

        Node fit(Node t) {
            if (t.parts.isEmpty()) {
                return null;
            }
            Node x = t.part(0);
            Node y = t.parts.size() > 1 ? t.part(1) : null;
            Node z = t.parts.size() > 2 ? t.part(2) : null;
            switch (sort) {
                case 0: return fold(t);
                case 1: return y == null || z != null ? null : zero(t.kind, x, y);
                case 2:
                    if (t.kind == 5 && (fault == 2 ? alike(x, y) : x.equals(y))) {
                        return leaf(0, 0);
                    }
                    return t.kind == 4 && fault == 1 && x.equals(y) ? leaf(0, 0) : null;
                case 3:
                    if (t.kind != 8 || x.kind != 0) {
                        return null;
                    }
                    if (fault == 2) {
                        return y;
                    }
                    if (fault == 1 && x.v < 0) {
                        return z;
                    }
                    return x.v != 0 ? y : z;
                case 4:
                    if (t.kind != 8) {
                        return null;
                    }
                    if (y.equals(z) || (fault == 1 && y.size() == z.size()) || (fault == 2 && x.equals(y))) {
                        return y;
                    }
                    return null;
                case 5: {
                    Node to = twice(t.kind, x, y);
                    return to != null && total - t.size() + to.size() <= 200 ? to : null;
                }
                default: return sink(t.kind, x, y);
            }
        }

        static boolean alike(Node x, Node y) {
            return x.kind == y.kind && (x.kind != 0 || x.v == y.v) && x.size() == y.size();
        }

        Node fold(Node t) {
            if (t.kind < 3 || t.kind > 7) {
                return null;
            }
            for (Node p : t.parts) {
                if (p.kind != 0) {
                    return null;
                }
            }
            if (t.kind == 7 && t.part(1).v == 0) {
                return null;
            }
            if (t.kind == 5 && fault == 1) {
                return leaf(0, t.part(1).v - t.part(0).v);
            }
            int value = eval(t, 0, 0);
            return leaf(0, t.kind == 6 && fault == 2 ? (short) value : value);
        }

        Node zero(int kind, Node x, Node y) {
            if (kind == 4 && y.is(0)) return x;
            if (kind == 4 && x.is(0)) return y;
            if (kind == 5 && y.is(0)) return x;
            if (kind == 6 && y.is(1)) return x;
            if (kind == 6 && x.is(1)) return y;
            if (kind == 7 && y.is(1)) return x;
            if (kind == 6 && y.is(0)) return fault == 2 ? x : leaf(0, 0);
            if (kind == 6 && x.is(0)) return fault == 2 ? y : leaf(0, 0);
            if (fault == 1 && kind == 5 && x.is(0)) return y;
            return null;
        }

        Node twice(int kind, Node x, Node y) {
            if (kind == 6 && y.is(2)) return of(4, x, x);
            if (kind == 6 && x.is(2)) return of(4, y, y);
            if (fault == 1 && kind == 6 && y.is(3)) return of(4, x, x);
            if (fault == 1 && kind == 6 && x.is(3)) return of(4, y, y);
            if (fault == 2 && kind == 7 && y.is(2)) return of(5, x, x);
            return null;
        }

        Node sink(int kind, Node x, Node y) {
            if (kind == 3 && x.kind == 3) return x.part(0);
            if (kind == 4 && y.kind == 3) return of(5, x, y.part(0));
            if (kind == 5 && y.kind == 3) return of(fault == 2 ? 5 : 4, x, y.part(0));
            if (fault == 1 && kind == 4 && x.kind == 3) return of(5, x.part(0), y);
            return null;
        }
    }

    // ---- the calls

    final Node[] places = new Node[20];
    final List<Node> pile = new ArrayList<>();
    final List<List<int[]>> makers = new ArrayList<>();
    Node found = null;
    int steps = BAD;

    Node at(int place) {
        return place >= 0 && place < 20 ? places[place] : null;
    }

    List<int[]> mk(int maker) {
        return maker >= 0 && maker < makers.size() ? makers.get(maker) : null;
    }

    Node make(List<int[]> turns, Node t, int n) {
        for (int i = 0; i < n; i++) {
            t = new Pass(turns.get(i)[0], turns.get(i)[1], t).go(t);
        }
        return t;
    }

    int firings(List<int[]> turns, Node t, int i) {
        Node ahead = make(turns, t, i);
        Pass pass = new Pass(turns.get(i)[0], turns.get(i)[1], ahead);
        pass.go(ahead);
        return pass.fired;
    }

    long many(int n) {
        if (n < 1 || n > 15) {
            return BAD;
        }
        long[] c = new long[16];
        for (int m = 1; m <= n; m++) {
            c[m] = m == 1 ? 5 : c[m - 1];
            for (int s = 1; s < m; s++) {
                for (int u = 1; s + u < m; u++) {
                    if (s + u == m - 1) {
                        c[m] += 4 * c[s] * c[u];
                    } else {
                        c[m] += c[s] * c[u] * c[m - 1 - s - u];
                    }
                }
            }
        }
        return c[n];
    }

    int node(int kind, int v) {
        if (kind < 0 || kind > 8 || (kind != 0 && v != 0)) return BAD;
        int parts = partsOf(kind);
        if (pile.size() < parts) return NOT;
        if (count(3) >= 60) return FULL;
        List<Node> taken = new ArrayList<>(pile.subList(pile.size() - parts, pile.size()));
        for (int i = 0; i < parts; i++) {
            pile.remove(pile.size() - 1);
        }
        pile.add(new Node(kind, v, taken));
        return pile.size();
    }

    int keep(int place) {
        if (place < 0 || place > 19) return BAD;
        if (pile.size() != 1) return NOT;
        places[place] = pile.remove(0);
        return places[place].size();
    }

    int drop(int place) {
        Node t = at(place);
        if (t == null) return BAD;
        places[place] = null;
        return t.size();
    }

    static int tell(Node t, int i, int what) {
        Node n = t == null ? null : nodeAt(t, i);
        if (n == null || what < 0 || what > 2) return VOID;
        return what == 0 ? n.kind : what == 1 ? n.v : n.size();
    }

    int read(int place, int i, int what) {
        return tell(at(place), i, what);
    }

    int value(int place, int a, int b) {
        Integer v = at(place) == null ? null : valueOf(at(place), a, b);
        return v == null ? VOID : v;
    }

    int safe(int place, int k) {
        if (at(place) == null || k < 0 || k > 6) return BAD;
        return isSafe(at(place), k) ? 1 : 0;
    }

    int breed(int place, int first, int i, int second, int j) {
        if (place < 0 || place > 19 || at(first) == null || at(second) == null) return BAD;
        Node from = nodeAt(at(second), j);
        if (nodeAt(at(first), i) == null || from == null) return BAD;
        Node bred = replace(at(first), i, from);
        if (bred.size() > 60) return FULL;
        places[place] = bred;
        return bred.size();
    }

    int maker() {
        if (makers.size() == 8) return FULL;
        makers.add(new ArrayList<>());
        return makers.size() - 1;
    }

    int turn(int maker, int sort, int fault) {
        if (mk(maker) == null || sort < 0 || sort > 6 || fault < 0 || fault > 2) return BAD;
        if (mk(maker).size() == 10) return FULL;
        mk(maker).add(new int[] {sort, fault});
        return mk(maker).size();
    }

    int plant(int maker, int turn, int fault) {
        if (mk(maker) == null || turn < 0 || turn >= mk(maker).size() || fault < 0 || fault > 2) return BAD;
        int was = mk(maker).get(turn)[1];
        mk(maker).get(turn)[1] = fault;
        return was;
    }

    int made(int maker, int place, int n) {
        if (mk(maker) == null || at(place) == null || n < 0 || n > mk(maker).size()) return BAD;
        found = make(mk(maker), at(place), n);
        return found.size();
    }

    int part(int i, int what) {
        return tell(found, i, what);
    }

    int answer(int maker, int place, int a, int b) {
        if (mk(maker) == null || at(place) == null) return VOID;
        Integer v = valueOf(make(mk(maker), at(place), mk(maker).size()), a, b);
        return v == null ? VOID : v;
    }

    int cost(int maker, int place, int a, int b) {
        if (mk(maker) == null || at(place) == null) return BAD;
        return costOf(make(mk(maker), at(place), mk(maker).size()), a, b);
    }

    int fires(int maker, int place, int i) {
        if (mk(maker) == null || at(place) == null || i < 0 || i >= mk(maker).size()) return BAD;
        return firings(mk(maker), at(place), i);
    }

    int never(int maker) {
        if (mk(maker) == null) return BAD;
        int bits = 0;
        for (int i = 0; i < mk(maker).size(); i++) {
            boolean any = false;
            for (Node t : places) {
                any |= t != null && firings(mk(maker), t, i) > 0;
            }
            bits |= any ? 0 : 1 << i;
        }
        return bits;
    }

    /** The a, b with another ANSWER, in order. */
    List<int[]> differences(List<int[]> turns, Node t, int k) {
        List<int[]> out = new ArrayList<>();
        Node made = make(turns, t, turns.size());
        for (int a = -k; a <= k; a++) {
            for (int b = -k; b <= k; b++) {
                if (!valueOf(t, a, b).equals(valueOf(made, a, b))) {
                    out.add(new int[] {a, b});
                }
            }
        }
        return out;
    }

    int refusal(int maker, int place, int k) {
        if (mk(maker) == null || at(place) == null || k < 0 || k > 6) return BAD;
        return isSafe(at(place), k) ? 0 : NOT;
    }

    int differ(int maker, int place, int k) {
        int no = refusal(maker, place, k);
        return no != 0 ? no : differences(mk(maker), at(place), k).size();
    }

    int first(int maker, int place, int k) {
        int no = refusal(maker, place, k);
        if (no != 0) return no;
        List<int[]> all = differences(mk(maker), at(place), k);
        return all.isEmpty() ? -5 : 100 * (all.get(0)[0] + 6) + all.get(0)[1] + 6;
    }

    int cause(int maker, int place, int a, int b) {
        if (mk(maker) == null || at(place) == null) return BAD;
        Integer right = valueOf(at(place), a, b);
        if (right == null) return NOT;
        for (int i = 0; i < mk(maker).size(); i++) {
            boolean before = right.equals(valueOf(make(mk(maker), at(place), i), a, b));
            boolean behind = right.equals(valueOf(make(mk(maker), at(place), i + 1), a, b));
            if (before && !behind) return i;
        }
        return NOT;
    }

    boolean faulty(List<int[]> turns, Node t, int k) {
        return isSafe(t, k) && !differences(turns, t, k).isEmpty();
    }

    Node step(List<int[]> turns, Node t, int k) {
        List<Node> nodes = new ArrayList<>();
        list(t, nodes);
        for (int i = 0; i < nodes.size(); i++) {
            List<Node> bys = new ArrayList<>(nodes.get(i).parts);
            if (!nodes.get(i).is(0)) {
                bys.add(leaf(0, 0));
            }
            for (Node by : bys) {
                Node stepped = replace(t, i, by);
                if (faulty(turns, stepped, k)) {
                    return stepped;
                }
            }
        }
        return null;
    }

    int small(int maker, int place, int k) {
        int no = refusal(maker, place, k);
        if (no != 0) return no;
        Node t = at(place);
        if (!faulty(mk(maker), t, k)) return NOT;
        steps = 0;
        for (Node next = step(mk(maker), t, k); next != null; next = step(mk(maker), t, k)) {
            t = next;
            steps++;
        }
        places[place] = t;
        return t.size();
    }

    int steps() {
        return steps;
    }

    long least(int maker, int turn, int n) {
        if (mk(maker) == null || turn < 0 || turn >= mk(maker).size() || n < 1 || n > 5) return BAD;
        for (int size = 1; size <= n; size++) {
            List<Node> all = all(size);
            for (int i = 0; i < all.size(); i++) {
                if (firings(mk(maker), all.get(i), turn) > 0) return 16L * i + size;
            }
        }
        return -5;
    }

    int shown(int maker, int n, int k, int what) {
        if (mk(maker) == null || n < 1 || n > 5 || k < 0 || k > 2 || what < 0 || what > 1) return BAD;
        int shown = 0;
        for (Node t : all(n)) {
            if (what == 0 ? isSafe(t, k) : faulty(mk(maker), t, k)) shown++;
        }
        return shown;
    }

    int count(int what) {
        int n = 0;
        switch (what) {
            case 0:
                for (Node t : places) n += t == null ? 0 : 1;
                return n;
            case 1: return makers.size();
            case 2: return pile.size();
            case 3:
                for (Node t : pile) n += t.size();
                return n;
            case 4:
                for (Node t : places) n += t == null ? 0 : t.size();
                return n;
            default: return BAD;
        }
    }

    int ofMaker(int maker, int turn) {
        if (mk(maker) == null || turn < -1 || turn >= mk(maker).size()) return BAD;
        return turn == -1 ? mk(maker).size() : 10 * mk(maker).get(turn)[0] + mk(maker).get(turn)[1];
    }
}
