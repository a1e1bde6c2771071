/** What is full, what is not yet; empty piles; and of several answers the one that is named first. */
public final class LimitsTest extends Trial {
    private static final int[] PARTS = {0, 0, 0, 1, 2, 2, 2, 2, 3};

    public static void main(String[] args) {
        fullOfTrees();
        fullOfOneTree();
        fullForEachKind();
        pileOfOne();
        fullPlaces();
        bredFull();
        fullOfMakers();
        fullOfTurns();
        namedFirst();
        DUE.end();
    }

    // ---- THE PILE

    private static void fullOfTrees() {
        DUE.topic("a pile of 60 trees");
        MakersBench x = new MakersBench();
        for (int i = 1; i <= 59; i++) {
            is("leaf " + i, x.node(i % 3, 0), i);
        }
        is("keep of 59 trees", x.keep(0), NOT);
        is("the 60th NODE", x.node(B, 0), 60);
        is("the 61st NODE", x.node(B, 0), FULL);
        is("the 61st NODE, a NUMBER", x.node(0, 7), FULL);
        is("keep of 60 trees", x.keep(0), NOT);
        is("TREES", x.count(2), 60);
        is("NODES", x.count(3), 60);
    }

    private static void fullOfOneTree() {
        DUE.topic("a pile of one tree of 60 NODES");
        MakersBench x = new MakersBench();
        x.node(A, 0);
        for (int i = 2; i <= 60; i++) {
            is("NODE " + i, x.node(NEG, 0), 1);
        }
        is("NEG", x.node(NEG, 0), FULL);
        is("INPUT", x.node(A, 0), FULL);
        is("NUMBER", x.node(0, -1), FULL);
        is("TREES", x.count(2), 1);
        is("NODES", x.count(3), 60);
        is("keep", x.keep(0), 60);
        is("NODES then", x.count(3), 0);
        is("NODE on the empty pile", x.node(A, 0), 1);
        is("SIZE of the top", x.read(0, 0, 2), 60);
        is("the leaf", x.read(0, 59, 0), A);
        is("its VALUE", x.value(0, 5, 0), -5);
    }

    /** With 59 NODES there is room for one of each KIND, with 60 for none. */
    private static void fullForEachKind() {
        DUE.topic("the 60th and the 61st NODE");
        for (int kind = 0; kind <= 8; kind++) {
            MakersBench x = ofNodes(59);
            is("the 60th, KIND " + kind, x.node(kind, 0), 4 - PARTS[kind]);
            is("NODES then", x.count(3), 60);
            for (int next = 0; next <= 8; next++) {
                boolean enough = x.count(2) >= PARTS[next];
                is("the 61st, KIND " + next, x.node(next, 0), enough ? FULL : NOT);
            }
            MakersBench full = ofNodes(60);
            int trees = full.count(2);
            is("the 61st, KIND " + kind, full.node(kind, 0), FULL);
            is("NODES still", full.count(3), 60);
            is("TREES still", full.count(2), trees);
        }
    }

    /** Three trees, the first one large. */
    private static MakersBench ofNodes(int nodes) {
        MakersBench x = new MakersBench();
        x.node(A, 0);
        for (int i = 3; i < nodes; i++) {
            x.node(NEG, 0);
        }
        x.node(B, 0);
        x.node(0, 3);
        is("NODES", x.count(3), nodes);
        return x;
    }

    private static void pileOfOne() {
        DUE.topic("keep");
        MakersBench x = new MakersBench();
        is("an empty pile", x.keep(0), NOT);
        x.node(A, 0);
        x.node(B, 0);
        is("two trees", x.keep(0), NOT);
        x.node(LESS, 0);
        is("one tree", x.keep(0), 3);
        is("an empty pile again", x.keep(1), NOT);
        is("NEG on an empty pile", x.node(NEG, 0), NOT);
        is("programs", x.count(0), 1);
        x.node(B, 0);
        is("one NODE", x.keep(1), 1);
    }

    // ---- places

    private static void fullPlaces() {
        DUE.topic("20 places of 60 NODES");
        MakersBench x = withMaker(6, 0);
        put(x, 0, chain("a", 60).trim());
        for (int place = 1; place < 20; place++) {
            is("breed into place " + place, x.breed(place, place - 1, 0, place - 1, 0), 60);
        }
        is("programs", x.count(0), 20);
        is("NODES", x.count(4), 1200);
        is("one more place", x.breed(20, 0, 0, 0, 0), BAD);
        is("over one", x.nth(7, 1, 3), 1);
        is("programs still", x.count(0), 20);
        is("NODES then", x.count(4), 1141);
        is("never", x.never(0), 0);
        for (int place = 0; place < 20; place++) {
            is("SIZE in place " + place, x.drop(place), place == 7 ? 1 : 60);
            is("programs then", x.count(0), 19 - place);
        }
        is("NODES of none", x.count(4), 0);
        is("never, without programs", x.never(0), 1);
    }

    private static void bredFull() {
        DUE.topic("bred, 60 and 61 NODES");
        MakersBench x = new MakersBench();
        put(x, 0, chain("a", 40).trim());
        for (int grow = 20; grow <= 22; grow++) {
            put(x, 1, chain("b", grow).trim());
            boolean fits = grow <= 21;
            is("40 with a leaf becoming " + grow, x.breed(2, 0, 39, 1, 0), fits ? 39 + grow : FULL);
            is("SIZE there", x.read(2, 0, 2), fits ? 39 + grow : 60);
            is("with the NODE above it becoming " + grow, x.breed(3, 0, 38, 1, 0), 38 + grow);
        }
        is("a part of the second one alone", x.breed(4, 0, 39, 1, 1), 60);
        is("a part that is one NODE larger", x.breed(4, 0, 39, 1, 0), FULL);
        // Into one of both, the other one being as it was.
        is("60 into the first", x.breed(0, 0, 38, 1, 0), 60);
        is("61 into the first", x.breed(0, 0, 59, 1, 20), FULL);
        is("the first", x.read(0, 0, 2), 60);
        is("60 for 60", x.breed(0, 0, 59, 1, 21), 60);
        is("61 into the second", x.breed(1, 0, 39, 1, 0), FULL);
        is("the second", x.read(1, 0, 2), 22);
        is("60 into the second", x.breed(1, 0, 38, 1, 0), 60);
        is("itself in its leaf", x.breed(0, 0, 59, 0, 0), FULL);
        is("itself as its top", x.breed(0, 0, 0, 0, 0), 60);
        put(x, 5, chain("a", 30).trim());
        is("30 in the leaf of 30", x.breed(6, 5, 29, 5, 0), 59);
        put(x, 7, chain("a", 31).trim());
        is("31 in the leaf of 30", x.breed(6, 5, 29, 7, 0), 60);
        is("31 in the leaf of 31", x.breed(6, 7, 30, 7, 0), FULL);
        is("SIZE there", x.read(6, 0, 2), 60);
        is("FULL into an empty place", x.breed(9, 7, 30, 7, 0), FULL);
        is("which is empty still", x.read(9, 0, 0), VOID);
    }

    // ---- makers

    private static void fullOfMakers() {
        DUE.topic("eight makers");
        MakersBench x = new MakersBench();
        for (int m = 0; m < 8; m++) {
            is("makers", x.count(1), m);
            is("maker", x.maker(), m);
        }
        is("the ninth", x.maker(), FULL);
        is("and again", x.maker(), FULL);
        is("makers", x.count(1), 8);
        is("ofMaker 8", x.ofMaker(8, -1), BAD);
    }

    private static void fullOfTurns() {
        DUE.topic("ten turns each");
        MakersBench x = new MakersBench();
        for (int m = 0; m < 8; m++) {
            x.maker();
        }
        for (int i = 0; i < 10; i++) {
            for (int m = 0; m < 8; m++) {
                is("turn " + i + " of " + m, x.turn(m, (i + m) % 7, (i + m) % 3), i + 1);
            }
        }
        for (int m = 0; m < 8; m++) {
            is("the eleventh of " + m, x.turn(m, 6, 2), FULL);
            is("turns of " + m, x.ofMaker(m, -1), 10);
            for (int i = 0; i < 10; i++) {
                is("turn " + i + " of " + m, x.ofMaker(m, i), (i + m) % 7 * 10 + (i + m) % 3);
            }
            is("no eleventh of " + m, x.ofMaker(m, 10), BAD);
            is("plant in the tenth", x.plant(m, 9, 2), (9 + m) % 3);
            is("plant in the eleventh", x.plant(m, 10, 2), BAD);
        }
        is("without programs, none of ten turns fires", x.never(7), 1023);
    }

    // ---- of several answers

    private static void namedFirst() {
        DUE.topic("of several answers");
        MakersBench few = new MakersBench();
        is("node: BAD ahead of NOT, the KIND", few.node(9, 0), BAD);
        is("node: BAD ahead of NOT, v", few.node(NEG, 1), BAD);
        is("node: NOT", few.node(NEG, 0), NOT);
        is("keep: BAD ahead of NOT", few.keep(20), BAD);
        is("keep: NOT", few.keep(19), NOT);
        MakersBench x = withMaker(0, 0, 0, 0, 0, 0, 0, 0, 0, 0, 0, 0, 0, 0, 0, 0, 0, 0, 0, 0);
        put(x, 0, chain("a", 60).trim());
        put(x, 1, "a b /");
        x.node(A, 0);
        for (int i = 2; i <= 60; i++) {
            x.node(NEG, 0);
        }
        is("node: BAD ahead of FULL, the KIND", x.node(-1, 0), BAD);
        is("node: BAD ahead of FULL, v", x.node(A, 1), BAD);
        is("node: BAD ahead of NOT and FULL", x.node(ADD, 1), BAD);
        is("node: NOT ahead of FULL, two PARTS", x.node(ADD, 0), NOT);
        is("node: NOT ahead of FULL, three PARTS", x.node(IF, 0), NOT);
        is("node: FULL", x.node(NEG, 0), FULL);
        is("breed: BAD ahead of FULL, the place", x.breed(20, 0, 59, 0, 0), BAD);
        is("breed: BAD ahead of FULL, i", x.breed(2, 0, 60, 0, 0), BAD);
        is("breed: FULL", x.breed(2, 0, 59, 0, 0), FULL);
        is("turn: BAD ahead of FULL, the SORT", x.turn(0, 7, 0), BAD);
        is("turn: BAD ahead of FULL, the FAULT", x.turn(0, 0, 3), BAD);
        is("turn: FULL", x.turn(0, 0, 0), FULL);
        is("differ: BAD ahead of NOT, k", x.differ(0, 1, 7), BAD);
        is("differ: BAD ahead of NOT, the maker", x.differ(1, 1, 6), BAD);
        is("differ: NOT", x.differ(0, 1, 6), NOT);
        is("first: BAD ahead of NOT, k", x.first(0, 1, -1), BAD);
        is("first: BAD ahead of NOT, the maker", x.first(1, 1, 0), BAD);
        is("first: NOT", x.first(0, 1, 0), NOT);
        is("cause: BAD ahead of NOT, the maker", x.cause(1, 1, 0, 0), BAD);
        is("cause: NOT", x.cause(0, 1, 0, 0), NOT);
        is("small: BAD ahead of NOT, k", x.small(0, 1, 7), BAD);
        is("small: BAD ahead of NOT, the maker", x.small(-1, 1, 6), BAD);
        is("small: NOT", x.small(0, 1, 6), NOT);
    }
}
