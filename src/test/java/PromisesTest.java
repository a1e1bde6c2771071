/** For each promise of the document: ordinary inputs, the edges it names, wrong inputs. Answers worked out by hand. */
public final class PromisesTest extends Trial {
    private static final int[] WRONG_PLACES = {-1, 20, Integer.MIN_VALUE, Integer.MAX_VALUE};

    public static void main(String[] args) {
        newObject();
        many();
        nth();
        number();
        node();
        keep();
        drop();
        read();
        value();
        safe();
        breed();
        maker();
        turn();
        plant();
        made();
        fold();
        zero();
        same();
        pick();
        melt();
        twice();
        sink();
        turnGoesOnce();
        part();
        answer();
        cost();
        fires();
        never();
        differ();
        first();
        cause();
        small();
        steps();
        least();
        shown();
        count();
        ofMaker();
        DUE.end();
    }

    private static void newObject() {
        DUE.topic("1 A new object");
        MakersBench x = new MakersBench();
        for (int what = 0; what < 5; what++) {
            is("count(" + what + ")", x.count(what), 0);
        }
        for (int place = 0; place < 20; place++) {
            is("read", x.read(place, 0, 0), VOID);
            is("drop", x.drop(place), BAD);
        }
        is("ofMaker", x.ofMaker(0, -1), BAD);
        is("part", x.part(0, 0), VOID);
        is("steps", x.steps(), BAD);
        is("keep", x.keep(0), NOT);
        is("BAD", MakersBench.BAD, -1);
        is("NOT", MakersBench.NOT, -2);
        is("FULL", MakersBench.FULL, -3);
        is("VOID", MakersBench.VOID, -2000000000);
        // Two objects share nothing.
        put(x, 0, "a");
        x.maker();
        is("count of another", new MakersBench().count(0), 0);
        is("makers of another", new MakersBench().count(1), 0);
    }

    private static void many() {
        DUE.topic("2 many");
        MakersBench x = new MakersBench();
        long[] want = {BAD, 5, 5, 105, 430, 5105};
        for (int n = 0; n < want.length; n++) {
            is("many(" + n + ")", x.many(n), want[n]);
        }
        is("many(15)", x.many(15), 22833227864855L);
        is("many(16)", x.many(16), BAD);
        is("many(-1)", x.many(-1), BAD);
        is("many(min)", x.many(Integer.MIN_VALUE), BAD);
        is("many(max)", x.many(Integer.MAX_VALUE), BAD);
    }

    private static void nth() {
        DUE.topic("3 nth");
        MakersBench x = new MakersBench();
        String[] ones = {"#0", "#1", "#2", "a", "b"};
        for (int i = 0; i < 5; i++) {
            is("nth", x.nth(i, 1, i), 1);
            same("the program " + i, told(x, i), ones[i]);
            is("nth", x.nth(5, 2, i), 2);
            same("the program " + i, told(x, 5), "neg " + ones[i]);
        }
        nthIs(x, 3, 0, "neg neg #0");
        nthIs(x, 3, 5, "+ #0 #0");
        nthIs(x, 3, 6, "+ #0 #1");
        nthIs(x, 3, 10, "+ #1 #0");
        nthIs(x, 3, 29, "+ b b");
        nthIs(x, 3, 30, "- #0 #0");
        nthIs(x, 3, 55, "* #0 #0");
        nthIs(x, 3, 104, "/ b b");
        nthIs(x, 4, 105, "+ #0 neg #0");
        nthIs(x, 4, 129, "+ b neg b");
        nthIs(x, 4, 130, "+ neg #0 #0");
        nthIs(x, 4, 305, "if #0 #0 #0");
        nthIs(x, 4, 429, "if b b b");
        nthIs(x, 5, 5105 - 375, "if #0 #0 neg #0");
        nthIs(x, 5, 5105 - 350, "if #0 neg #0 #0");
        nthIs(x, 5, 5105 - 125, "if neg #0 #0 #0");
        nthIs(x, 5, 5104, "if neg b b b");
        // What is refused leaves the place as it was.
        x.nth(0, 5, 5104);
        is("i too high", x.nth(0, 1, 5), BAD);
        is("i too low", x.nth(0, 1, -1), BAD);
        is("i far too high", x.nth(0, 15, 22833227864855L), BAD);
        is("i the last", x.nth(1, 15, 22833227864854L), 15);
        is("i of long", x.nth(0, 1, (1L << 32) + 1), BAD);
        is("i least", x.nth(0, 1, Long.MIN_VALUE), BAD);
        is("n 0", x.nth(0, 0, 0), BAD);
        is("n 16", x.nth(0, 16, 0), BAD);
        is("n least", x.nth(0, Integer.MIN_VALUE, 0), BAD);
        for (int place : WRONG_PLACES) {
            is("place " + place, x.nth(place, 1, 0), BAD);
        }
        same("the program", told(x, 0), "if neg b b b");
        is("place 19", x.nth(19, 1, 0), 1);
    }

    private static void nthIs(MakersBench x, int n, long i, String want) {
        is("nth", x.nth(6, n, i), n);
        same("program " + i + " of SIZE " + n, told(x, 6), want);
        is("number", x.number(6), i);
    }

    private static void number() {
        DUE.topic("4 number");
        MakersBench x = new MakersBench();
        put(x, 0, "b a neg /");
        is("number", x.number(0), 105 + 3 * 50 + 23);
        put(x, 0, "a #3 +");
        is("a NUMBER 3", x.number(0), NOT);
        put(x, 0, "#-1");
        is("a NUMBER -1", x.number(0), NOT);
        StringBuilder chain = new StringBuilder("b");
        for (int i = 0; i < 14; i++) {
            chain.append(" neg");
        }
        put(x, 0, chain.toString());
        is("SIZE 15", x.number(0), 4);
        put(x, 0, chain + " neg");
        is("SIZE 16", x.number(0), NOT);
        is("empty", x.number(1), BAD);
        for (int place : WRONG_PLACES) {
            is("place " + place, x.number(place), BAD);
        }
        for (long i : new long[] {0, 1, 77777, 123456789L, 22833227864854L}) {
            x.nth(2, 15, i);
            is("number", x.number(2), i);
        }
    }

    private static void node() {
        DUE.topic("5 node");
        MakersBench x = new MakersBench();
        is("NEG on nothing", x.node(NEG, 0), NOT);
        is("a", x.node(A, 0), 1);
        is("ADD on one", x.node(ADD, 0), NOT);
        is("b", x.node(B, 0), 2);
        is("IF on two", x.node(IF, 0), NOT);
        is("number", x.node(0, Integer.MIN_VALUE), 3);
        is("nodes", x.count(3), 3);
        is("neg", x.node(NEG, 0), 3);
        is("if", x.node(IF, 0), 1);
        is("kind 9", x.node(9, 0), BAD);
        is("kind -1", x.node(-1, 0), BAD);
        is("kind least", x.node(Integer.MIN_VALUE, 0), BAD);
        for (int kind = 1; kind <= 8; kind++) {
            is("v of kind " + kind, x.node(kind, 1), BAD);
        }
        is("nodes", x.count(3), 5);
        x.keep(0);
        same("the parts in order", told(x, 0), "if a b neg #-2147483648");
        put(x, 1, "a b -");
        same("the last one latest", told(x, 1), "- a b");
        for (int i = 1; i <= 60; i++) {
            is("the leaf " + i, x.node(A, 0), i);
        }
        is("60 NODES", x.node(A, 0), FULL);
        is("60 NODES, enough parts", x.node(IF, 0), FULL);
        is("BAD ahead of FULL", x.node(A, 3), BAD);
        is("trees", x.count(2), 60);
        MakersBench y = new MakersBench();
        y.node(A, 0);
        for (int i = 1; i < 60; i++) {
            is("neg", y.node(NEG, 0), 1);
        }
        is("NOT ahead of FULL", y.node(ADD, 0), NOT);
        is("FULL", y.node(NEG, 0), FULL);
        is("keep", y.keep(3), 60);
    }

    private static void keep() {
        DUE.topic("6 keep");
        MakersBench x = new MakersBench();
        is("nothing there", x.keep(0), NOT);
        x.node(A, 0);
        for (int place : WRONG_PLACES) {
            is("place " + place, x.keep(place), BAD);
        }
        is("trees", x.count(2), 1);
        is("keep", x.keep(19), 1);
        is("trees", x.count(2), 0);
        is("nodes", x.count(3), 0);
        is("nothing there any more", x.keep(19), NOT);
        x.node(A, 0);
        x.node(B, 0);
        is("two", x.keep(0), NOT);
        is("BAD ahead of NOT", x.keep(20), BAD);
        x.node(TIMES, 0);
        is("over another", x.keep(19), 3);
        same("the program", told(x, 19), "* a b");
        is("programs", x.count(0), 1);
    }

    private static void drop() {
        DUE.topic("7 drop");
        MakersBench x = new MakersBench();
        put(x, 4, "a b -");
        is("drop", x.drop(4), 3);
        is("again", x.drop(4), BAD);
        is("programs", x.count(0), 0);
        is("read", x.read(4, 0, 0), VOID);
        for (int place : WRONG_PLACES) {
            is("place " + place, x.drop(place), BAD);
        }
    }

    private static void read() {
        DUE.topic("8 read");
        MakersBench x = new MakersBench();
        put(x, 0, "a #7 + b neg #-2 if");
        same("nodes", told(x, 0), "if + a #7 neg b #-2");
        int[] sizes = {7, 3, 1, 1, 2, 1, 1};
        for (int i = 0; i < 7; i++) {
            is("SIZE of " + i, x.read(0, i, 2), sizes[i]);
        }
        is("v of a NUMBER", x.read(0, 3, 1), 7);
        is("v of another", x.read(0, 1, 1), 0);
        is("i 7", x.read(0, 7, 0), VOID);
        is("i -1", x.read(0, -1, 0), VOID);
        is("i least", x.read(0, Integer.MIN_VALUE, 0), VOID);
        is("i most", x.read(0, Integer.MAX_VALUE, 0), VOID);
        is("what 3", x.read(0, 0, 3), VOID);
        is("what -1", x.read(0, 0, -1), VOID);
        is("empty", x.read(1, 0, 0), VOID);
        for (int place : WRONG_PLACES) {
            is("place " + place, x.read(place, 0, 0), VOID);
        }
    }

    private static void value() {
        DUE.topic("9 value");
        valueIs("#-9", 1, 2, -9);
        valueIs("a", 3, 4, 3);
        valueIs("b", 3, 4, 4);
        valueIs("a neg", Integer.MIN_VALUE, 0, Integer.MIN_VALUE);
        valueIs("a b +", Integer.MAX_VALUE, 1, Integer.MIN_VALUE);
        valueIs("a b -", 3, 5, -2);
        valueIs("a b *", 65536, 65536, 0);
        valueIs("a b /", -7, 2, -3);
        valueIs("a b /", 7, -2, -3);
        valueIs("a b /", Integer.MIN_VALUE, -1, Integer.MIN_VALUE);
        valueIs("a b /", 5, 0, VOID);
        valueIs("a b #9 if", -1, 5, 5);
        valueIs("a b #9 if", 0, 5, 9);
        valueIs("a #1 #0 / b if", 0, 5, 5);
        valueIs("a #1 #0 / b if", 1, 5, VOID);
        valueIs("a b #1 #0 / if", 1, 5, 5);
        valueIs("a b #1 #0 / if", 0, 5, VOID);
        valueIs("#1 #0 / #1 #2 if", 0, 0, VOID);
        valueIs("#0 #1 a / *", 0, 0, VOID);
        valueIs("#1 a / neg #1 +", 0, 0, VOID);
        MakersBench x = new MakersBench();
        is("empty", x.value(0, 0, 0), VOID);
        for (int place : WRONG_PLACES) {
            is("place " + place, x.value(place, 0, 0), VOID);
        }
    }

    private static void valueIs(String program, int a, int b, int want) {
        MakersBench x = new MakersBench();
        put(x, 0, program);
        is("value of " + program + " for " + a + ", " + b, x.value(0, a, b), want);
    }

    private static void safe() {
        DUE.topic("10 safe");
        MakersBench x = new MakersBench();
        put(x, 0, "#1 a #3 - /");
        for (int k = 0; k <= 6; k++) {
            is("within " + k, x.safe(0, k), k < 3 ? 1 : 0);
        }
        put(x, 1, "#1 b #6 + /");
        is("b, within 5", x.safe(1, 5), 1);
        is("b, within 6", x.safe(1, 6), 0);
        put(x, 2, "a #1 a / #0 if");
        is("not worked out", x.safe(2, 6), 1);
        put(x, 3, "#1 a b + #3 - /");
        is("both, within 1", x.safe(3, 1), 1);
        is("both, within 2", x.safe(3, 2), 0);
        put(x, 4, "#1 #0 /");
        is("no input", x.safe(4, 0), 0);
        is("k 7", x.safe(0, 7), BAD);
        is("k -1", x.safe(0, -1), BAD);
        is("k least", x.safe(0, Integer.MIN_VALUE), BAD);
        is("empty", x.safe(9, 0), BAD);
        for (int place : WRONG_PLACES) {
            is("place " + place, x.safe(place, 0), BAD);
        }
    }

    private static void breed() {
        DUE.topic("11 breed");
        MakersBench x = new MakersBench();
        put(x, 0, "a b neg + #5 *");
        put(x, 1, "a #1 b if");
        is("breed", x.breed(2, 0, 3, 1, 0), 8);
        same("bred", told(x, 2), "* + a if a #1 b #5");
        is("SIZE of the top", x.read(2, 0, 2), 8);
        is("SIZE within", x.read(2, 1, 2), 6);
        is("the first is as it was", x.read(0, 0, 2), 6);
        is("the top", x.breed(2, 0, 0, 1, 3), 1);
        same("bred", told(x, 2), "b");
        is("into the first", x.breed(0, 0, 1, 0, 0), 8);
        same("bred", told(x, 0), "* * + a neg b #5 #5");
        is("into the second", x.breed(1, 0, 7, 1, 0), 11);
        same("bred", told(x, 1), "* * + a neg b #5 if a #1 b");
        is("i too high", x.breed(3, 0, 8, 1, 0), BAD);
        is("j too high", x.breed(3, 0, 0, 1, 11), BAD);
        is("i -1", x.breed(3, 0, -1, 1, 0), BAD);
        is("j -1", x.breed(3, 0, 0, 1, -1), BAD);
        is("no first", x.breed(3, 4, 0, 1, 0), BAD);
        is("no second", x.breed(3, 0, 0, 4, 0), BAD);
        for (int place : WRONG_PLACES) {
            is("place " + place, x.breed(place, 0, 0, 1, 0), BAD);
            is("first " + place, x.breed(3, place, 0, 1, 0), BAD);
            is("second " + place, x.breed(3, 0, 0, place, 0), BAD);
        }
        is("programs", x.count(0), 3);
        StringBuilder chain = new StringBuilder("a");
        for (int i = 0; i < 29; i++) {
            chain.append(" neg");
        }
        put(x, 5, chain.toString());
        is("59", x.breed(6, 5, 29, 5, 0), 59);
        is("60", x.breed(6, 6, 58, 2, 0), 59);
        put(x, 7, "b neg");
        is("60 NODES", x.breed(6, 6, 58, 7, 0), 60);
        is("61 NODES", x.breed(6, 6, 59, 7, 0), FULL);
        is("still 60", x.read(6, 0, 2), 60);
        is("BAD ahead of FULL", x.breed(20, 6, 59, 7, 0), BAD);
    }

    private static void maker() {
        DUE.topic("12 maker");
        MakersBench x = new MakersBench();
        for (int i = 0; i < 8; i++) {
            is("maker", x.maker(), i);
            is("its turns", x.ofMaker(i, -1), 0);
        }
        is("a ninth", x.maker(), FULL);
        is("makers", x.count(1), 8);
        is("the eighth", x.turn(7, 0, 0), 1);
        is("no ninth", x.turn(8, 0, 0), BAD);
    }

    private static void turn() {
        DUE.topic("13 turn");
        MakersBench x = new MakersBench();
        is("no maker", x.turn(0, 0, 0), BAD);
        x.maker();
        x.maker();
        is("sort 7", x.turn(0, 7, 0), BAD);
        is("sort -1", x.turn(0, -1, 0), BAD);
        is("fault 3", x.turn(0, 0, 3), BAD);
        is("fault -1", x.turn(0, 0, -1), BAD);
        is("maker -1", x.turn(-1, 0, 0), BAD);
        is("maker 2", x.turn(2, 0, 0), BAD);
        is("maker most", x.turn(Integer.MAX_VALUE, 0, 0), BAD);
        for (int i = 0; i < 10; i++) {
            is("turn", x.turn(0, i % 7, i % 3), i + 1);
        }
        is("an eleventh", x.turn(0, 0, 0), FULL);
        is("BAD ahead of FULL", x.turn(0, 7, 0), BAD);
        is("turns", x.ofMaker(0, -1), 10);
        is("of another maker", x.ofMaker(1, -1), 0);
    }

    private static void plant() {
        DUE.topic("14 plant");
        MakersBench x = withMaker(0, 1, 3, 2);
        is("plant", x.plant(0, 1, 1), 2);
        is("plant", x.plant(0, 1, 0), 1);
        is("ofMaker", x.ofMaker(0, 1), 30);
        is("of the other", x.ofMaker(0, 0), 1);
        is("fault 3", x.plant(0, 0, 3), BAD);
        is("fault -1", x.plant(0, 0, -1), BAD);
        is("turn 2", x.plant(0, 2, 0), BAD);
        is("turn -1", x.plant(0, -1, 0), BAD);
        is("maker 1", x.plant(1, 0, 0), BAD);
        is("maker -1", x.plant(-1, 0, 0), BAD);
        is("as it was", x.ofMaker(0, 0), 1);
        put(x, 0, "#5 #3 -");
        is("with the fault", x.answer(0, 0, 0, 0), -2);
        x.plant(0, 0, 0);
        is("without", x.answer(0, 0, 0, 0), 2);
    }

    private static void made() {
        DUE.topic("15 made");
        MakersBench x = withMaker(0, 0, 1, 0);
        put(x, 0, "a #1 #1 - *");
        is("by none", x.made(0, 0, 0), 5);
        same("the tree", toldPart(x), "* a - #1 #1");
        is("by one", x.made(0, 0, 1), 3);
        same("the tree", toldPart(x), "* a #0");
        is("by two", x.made(0, 0, 2), 1);
        same("the tree", toldPart(x), "#0");
        is("n 3", x.made(0, 0, 3), BAD);
        is("n -1", x.made(0, 0, -1), BAD);
        is("no maker", x.made(1, 0, 0), BAD);
        is("maker -1", x.made(-1, 0, 0), BAD);
        is("empty", x.made(0, 1, 0), BAD);
        is("place 20", x.made(0, 20, 0), BAD);
        same("the latest that was not refused", toldPart(x), "#0");
        same("the program is as it was", told(x, 0), "* a - #1 #1");
    }

    private static void fold() {
        DUE.topic("15 made: FOLD");
        turns(0, 0, "#5 neg", "#-5", 1);
        turns(0, 0, "#-2147483648 neg", "#-2147483648", 1);
        turns(0, 0, "#2147483647 #1 +", "#-2147483648", 1);
        turns(0, 0, "#5 #3 -", "#2", 1);
        turns(0, 1, "#5 #3 -", "#-2", 1);
        turns(0, 2, "#5 #3 -", "#2", 1);
        turns(0, 1, "#5 #3 +", "#8", 1);
        turns(0, 0, "#300 #300 *", "#90000", 1);
        turns(0, 1, "#300 #300 *", "#90000", 1);
        turns(0, 2, "#300 #300 *", "#24464", 1);
        turns(0, 2, "#200 #200 *", "#-25536", 1);
        turns(0, 0, "#-7 #2 /", "#-3", 1);
        turns(0, 0, "#-2147483648 #-1 /", "#-2147483648", 1);
        turns(0, 0, "#7 #0 /", "/ #7 #0", 0);
        turns(0, 0, "#0 #7 /", "#0", 1);
        turns(0, 0, "#1 #2 #3 if", "if #1 #2 #3", 0);
        turns(0, 0, "a #2 +", "+ a #2", 0);
        turns(0, 0, "#2 a +", "+ #2 a", 0);
        turns(0, 0, "#1 #2 + #3 #4 * - neg", "#9", 4);
    }

    private static void zero() {
        DUE.topic("15 made: ZERO");
        for (int fault = 0; fault < 3; fault++) {
            turns(1, fault, "a neg #0 +", "neg a", 1);
            turns(1, fault, "#0 a neg +", "neg a", 1);
            turns(1, fault, "a neg #0 -", "neg a", 1);
            turns(1, fault, "a neg #1 *", "neg a", 1);
            turns(1, fault, "#1 a neg *", "neg a", 1);
            turns(1, fault, "a neg #1 /", "neg a", 1);
            turns(1, fault, "#1 a /", "/ #1 a", 0);
            turns(1, fault, "#0 a /", "/ #0 a", 0);
            turns(1, fault, "a #1 +", "+ a #1", 0);
            turns(1, fault, "#0 #1 *", "#0", 1);
            turns(1, fault, "#1 #0 *", "#0", 1);
            turns(1, fault, "#0 #0 *", "#0", 1);
            turns(1, fault, "#1 #1 *", "#1", 1);
            turns(1, fault, "#0 neg", "neg #0", 0);
        }
        turns(1, 0, "a neg #0 *", "#0", 1);
        turns(1, 0, "#0 a neg *", "#0", 1);
        turns(1, 1, "a neg #0 *", "#0", 1);
        turns(1, 2, "a neg #0 *", "neg a", 1);
        turns(1, 2, "#0 a neg *", "neg a", 1);
        turns(1, 0, "#0 a neg -", "- #0 neg a", 0);
        turns(1, 1, "#0 a neg -", "neg a", 1);
        turns(1, 2, "#0 a neg -", "- #0 neg a", 0);
    }

    private static void same() {
        DUE.topic("15 made: SAME");
        for (int fault = 0; fault < 3; fault++) {
            turns(2, fault, "a b + a b + -", "#0", 1);
            turns(2, fault, "#1 #2 -", "- #1 #2", 0);
            turns(2, fault, "#2 #2 -", "#0", 1);
            turns(2, fault, "a b -", "- a b", 0);
            turns(2, fault, "a a *", "* a a", 0);
        }
        turns(2, 0, "a b + b a + -", "- + a b + b a", 0);
        turns(2, 1, "a b + b a + -", "- + a b + b a", 0);
        turns(2, 2, "a b + b a + -", "#0", 1);
        turns(2, 2, "a b + a neg b + -", "- + a b + neg a b", 0);
        turns(2, 2, "a b + a b * -", "- + a b * a b", 0);
        turns(2, 0, "a a +", "+ a a", 0);
        turns(2, 1, "a a +", "#0", 1);
        turns(2, 1, "a b + a b + +", "#0", 1);
        turns(2, 1, "a b +", "+ a b", 0);
        turns(2, 2, "a a +", "+ a a", 0);
    }

    private static void pick() {
        DUE.topic("15 made: PICK");
        int[] numbers = {-3, 0, 3, Integer.MIN_VALUE};
        String[] second = {"neg a", "+ b #4"};
        int[][] chosen = {{0, 1, 0, 0}, {1, 1, 0, 1}, {0, 0, 0, 0}};
        for (int fault = 0; fault < 3; fault++) {
            for (int i = 0; i < numbers.length; i++) {
                turns(3, fault, "#" + numbers[i] + " a neg b #4 + if", second[chosen[fault][i]], 1);
            }
            turns(3, fault, "a b #4 if", "if a b #4", 0);
        }
    }

    private static void melt() {
        DUE.topic("15 made: MELT");
        for (int fault = 0; fault < 3; fault++) {
            turns(4, fault, "a b #4 + b #4 + if", "+ b #4", 1);
            turns(4, fault, "a b #4 + b if", "if a + b #4 b", 0);
            turns(4, fault, "a b a if", fault == 1 ? "b" : "if a b a", fault == 1 ? 1 : 0);
        }
        turns(4, 0, "a b #4 + a #4 + if", "if a + b #4 + a #4", 0);
        turns(4, 1, "a b #4 + a #4 * if", "+ b #4", 1);
        turns(4, 2, "a b #4 + a #4 + if", "if a + b #4 + a #4", 0);
        turns(4, 0, "a neg a neg b if", "if neg a neg a b", 0);
        turns(4, 1, "a neg a neg b if", "if neg a neg a b", 0);
        turns(4, 2, "a neg a neg b if", "neg a", 1);
    }

    private static void twice() {
        DUE.topic("15 made: TWICE");
        for (int fault = 0; fault < 3; fault++) {
            turns(5, fault, "a neg #2 *", "+ neg a neg a", 1);
            turns(5, fault, "#2 a neg *", "+ neg a neg a", 1);
            turns(5, fault, "#2 #2 *", "+ #2 #2", 1);
            turns(5, fault, "#2 #3 *", "+ #3 #3", 1);
            turns(5, fault, "#3 #2 *", "+ #3 #3", 1);
            turns(5, fault, "a neg #3 *", fault == 1 ? "+ neg a neg a" : "* neg a #3", fault == 1 ? 1 : 0);
            turns(5, fault, "#3 a neg *", fault == 1 ? "+ neg a neg a" : "* #3 neg a", fault == 1 ? 1 : 0);
            turns(5, fault, "a neg #2 /", fault == 2 ? "- neg a neg a" : "/ neg a #2", fault == 2 ? 1 : 0);
            turns(5, fault, "#2 a /", "/ #2 a", 0);
            turns(5, fault, "a #3 /", "/ a #3", 0);
            turns(5, fault, "a #2 +", "+ a #2", 0);
        }
        // Six times two makes 127 NODES of the first part; what is unread counts, too.
        String six = "a #2 * #2 * #2 * #2 * #2 * #2 *";
        twiceLimit(six + chain("b", 30) + " +", 127 + 1 + 30 + 1 - 1);
        twiceLimit(six + chain("b", 60 - 14) + " +", 127 + 46 + 1);
        // 63 of the left side, then the right side may grow to 200 in all.
        String five = "a #2 * #2 * #2 * #2 * #2 *";
        twiceLimit(five + " " + six + " +", 63 + 127 + 1);
        twiceLimit(six + " " + five + " +", 127 + 63 + 1);
        twiceLimit(six + " " + six + " +", 127 + (63 + 2) + 1);
        twiceLimit(five + chain("b", 3) + " + " + six + " +", 63 + 1 + 3 + 1 + 127);
        twiceLimit(five + chain("b", 8) + " + " + six + " +", 63 + 1 + 8 + 1 + 127);
        twiceLimit(five + chain("b", 9) + " + " + six + " +", 63 + 1 + 9 + 1 + 63 + 2);
        // The right side is unread when the left one is doubled, at its old SIZE.
        twiceLimit(six + " " + five + chain("b", 8) + " + +", 127 + 63 + 8 + 2);
        twiceLimit(six + " " + five + chain("b", 9) + " + +", 127 + (31 + 2) + 9 + 2);
        MakersBench x = withMaker(5, 2);
        put(x, 0, "a #2 * #2 * #2 * #2 * #2 * #2 * #2 /");
        is("127 OVER 2 is not doubled", x.made(0, 0, 1), 129);
        is("fires", x.fires(0, 0, 0), 6);
    }

    private static void twiceLimit(String postfix, int want) {
        MakersBench x = withMaker(5, 0);
        put(x, 0, postfix);
        is("SIZE of " + postfix + " with doubles", x.made(0, 0, 1), want);
        is("SIZE of its top", x.part(0, 2), want);
        is("no NODE behind", x.part(want, 0), VOID);
    }

    private static void sink() {
        DUE.topic("15 made: SINK");
        for (int fault = 0; fault < 3; fault++) {
            turns(6, fault, "a b + neg neg", "+ a b", 1);
            turns(6, fault, "a #4 + b #5 + neg +", "- + a #4 + b #5", 1);
            turns(6, fault, "a neg b neg +", "- neg a b", 1);
            turns(6, fault, "a neg b -", "- neg a b", 0);
            turns(6, fault, "a b neg *", "* a neg b", 0);
            turns(6, fault, "#-4 neg", "neg #-4", 0);
            turns(6, fault, "a #4 + b #5 + neg -", (fault == 2 ? "-" : "+") + " + a #4 + b #5", 1);
            turns(6, fault, "a #4 + neg b #5 + +", fault == 1 ? "- + a #4 + b #5" : "+ neg + a #4 + b #5",
                fault == 1 ? 1 : 0);
        }
        MakersBench x = withMaker(5, 0, 6, 0);
        String two = " #2 *";
        put(x, 0, "a b neg +" + two.repeat(5) + " a" + " neg".repeat(37) + " +");
        is("TWICE", x.made(0, 0, 1), 159 + 38 + 1);
        // Of the 37 NEG one stays, and the ADD on top takes it.
        is("SINK in a large tree", x.made(0, 0, 2), 127 + 1 + 1);
        is("fires", x.fires(0, 0, 1), 32 + 18 + 1);
        turns(6, 0, "a neg neg neg", "neg a", 1);
        turns(6, 0, "a neg neg neg neg", "a", 2);
    }

    private static void turnGoesOnce() {
        DUE.topic("15 made: once over a tree");
        // What a node has become is not looked at again, its own parts are as they are by then.
        turns(1, 0, "#0 a + #0 +", "a", 2);
        turns(1, 0, "#0 #0 * a +", "a", 2);
        turns(3, 0, "#1 #0 a b if #7 if", "b", 2);
        turns(5, 0, "a #2 * #2 *", "+ + a a + a a", 2);
        turns(6, 0, "a b neg neg neg +", "- a b", 2);
        // A PART that has become smaller or larger, ahead of another PART that is looked at.
        turns(0, 0, "#1 neg #2 + #4 +", "#5", 3);
        turns(1, 1, "#0 a - #0 +", "a", 2);
        turns(1, 2, "a #0 * #1 *", "a", 2);
        turns(2, 0, "a b + a b + - #0 -", "#0", 2);
        turns(2, 0, "a a - b b - -", "#0", 3);
        turns(2, 0, "a a - a -", "- #0 a", 1);
        turns(3, 0, "#1 #2 #3 if a b if", "a", 2);
        turns(3, 0, "#1 #0 a b if a if", "b", 2);
        turns(3, 0, "#0 a #1 b a if if", "b", 2);
        turns(4, 0, "a b b if #1 #1 if", "#1", 2);
        turns(4, 0, "a a b b if b if", "b", 2);
        turns(4, 0, "a b a b b if if", "b", 2);
        turns(4, 0, "a b b if #1 #2 if", "if b #1 #2", 1);
        turns(5, 0, "a #2 * b #2 * + #2 *", "+ + + a a + b b + + a a + b b", 3);
        turns(5, 1, "a neg #3 * #2 /", "/ + neg a neg a #2", 1);
        turns(5, 2, "a neg #2 / #2 *", "+ - neg a neg a - neg a neg a", 2);
        turns(6, 0, "a b neg + #1 neg +", "- - a b #1", 2);
        turns(6, 0, "a b neg - #1 neg -", "+ + a b #1", 2);
        turns(6, 1, "a neg b + #1 neg +", "- - a b #1", 2);
        turns(6, 2, "a b neg - #1 neg -", "- - a b #1", 2);
        turns(6, 0, "a neg neg b neg +", "- a b", 2);
        turns(6, 0, "a neg neg b #1 neg if", "if a b neg #1", 1);
        MakersBench x = withMaker(5, 0, 2, 1, 5, 0);
        put(x, 0, "a #2 *");
        is("turns in their order", x.made(0, 0, 3), 1);
        same("the tree", toldPart(x), "#0");
    }

    private static void part() {
        DUE.topic("16 part");
        MakersBench x = withMaker(5, 0);
        is("before any made()", x.part(0, 0), VOID);
        put(x, 0, "b #9 + #2 *");
        is("refused", x.made(0, 1, 0), BAD);
        is("still none", x.part(0, 0), VOID);
        x.made(0, 0, 1);
        same("the tree", toldPart(x), "+ + b #9 + b #9");
        is("v", x.part(3, 1), 9);
        is("v of another", x.part(4, 1), 0);
        is("SIZE", x.part(0, 2), 7);
        is("SIZE", x.part(4, 2), 3);
        is("i 7", x.part(7, 0), VOID);
        is("i -1", x.part(-1, 0), VOID);
        is("i most", x.part(Integer.MAX_VALUE, 0), VOID);
        is("what 3", x.part(0, 3), VOID);
        is("what -1", x.part(0, -1), VOID);
        // Nothing but made() touches it.
        x.answer(0, 0, 1, 1);
        x.least(0, 0, 3);
        x.shown(0, 3, 1, 1);
        x.cause(0, 0, 1, 1);
        x.nth(0, 2, 0);
        x.drop(0);
        same("the tree", toldPart(x), "+ + b #9 + b #9");
    }

    private static void answer() {
        DUE.topic("17 answer");
        MakersBench x = withMaker(6, 2);
        put(x, 0, "a b neg -");
        is("answer", x.answer(0, 0, 7, 2), 5);
        is("value", x.value(0, 7, 2), 9);
        put(x, 1, "a b /");
        is("FREE", x.answer(0, 1, 7, 0), VOID);
        is("not FREE", x.answer(0, 1, 7, 2), 3);
        put(x, 2, "a b neg -");
        x.maker();
        is("without turns", x.answer(1, 2, 7, 2), 9);
        is("no maker", x.answer(2, 0, 0, 0), VOID);
        is("maker -1", x.answer(-1, 0, 0, 0), VOID);
        is("empty", x.answer(0, 5, 0, 0), VOID);
        is("place 20", x.answer(0, 20, 0, 0), VOID);
        MakersBench y = withMaker(1, 0);
        put(y, 0, "#1 #0 / #0 *");
        is("FREE is gone", y.answer(0, 0, 0, 0), 0);
        is("value", y.value(0, 0, 0), VOID);
    }

    private static void cost() {
        DUE.topic("18 cost");
        costIs("a", 0, 0, 1);
        costIs("a neg", 0, 0, 2);
        costIs("a b +", 0, 0, 3);
        costIs("a b neg b #4 * if", 1, 0, 1 + 1 + 2 + 1);
        costIs("a b neg b #4 * if", 0, 0, 1 + 1 + 3);
        costIs("a b /", 1, 0, 3);
        costIs("a b / neg #1 +", 1, 0, 3);
        costIs("a b / neg #1 +", 1, 1, 6);
        costIs("a b #1 b / + *", 1, 0, 5);
        costIs("a #1 b / #5 if", 1, 0, 1 + 1 + 3);
        costIs("a #1 b / #5 if", 1, 1, 1 + 1 + 3 + 1);
        costIs("a #5 #1 b / if", 0, 0, 1 + 1 + 3);
        costIs("#1 b / #5 #6 if", 0, 0, 3);
        MakersBench x = withMaker(5, 0);
        put(x, 0, "a #2 * #2 *");
        is("of what was MADE", x.cost(0, 0, 0, 0), 7);
        // 200 NODES, 45 of them IF: more orders than NODES.
        String two = " #2 *";
        put(x, 2, "a b #1 if" + two.repeat(5) + " a a".repeat(13) + " b" + " if".repeat(13) + " +");
        is("MADE", x.made(0, 2, 1), 200);
        is("cost for 0", x.cost(0, 2, 0, 5), 32 * 3 + 31 + 13 * 2 + 1 + 1);
        is("cost for 1", x.cost(0, 2, 1, 5), 32 * 4 + 31 + 4 + 1);
        is("answer for 0", x.answer(0, 2, 0, 5), 32 + 5);
        is("answer for 1", x.answer(0, 2, 1, 5), 32 * 5 + 1);
        is("no maker", x.cost(1, 0, 0, 0), BAD);
        is("maker -1", x.cost(-1, 0, 0, 0), BAD);
        is("empty", x.cost(0, 1, 0, 0), BAD);
        is("place -1", x.cost(0, -1, 0, 0), BAD);
    }

    private static void costIs(String program, int a, int b, int want) {
        MakersBench x = withMaker();
        put(x, 0, program);
        is("cost of " + program + " for " + a + ", " + b, x.cost(0, 0, a, b), want);
    }

    private static void fires() {
        DUE.topic("19 fires");
        MakersBench x = withMaker(0, 0, 1, 0, 0, 0);
        put(x, 0, "a #1 #1 - * #2 #3 + +");
        is("turn 0", x.fires(0, 0, 0), 2);
        is("turn 1", x.fires(0, 0, 1), 2);
        is("turn 2", x.fires(0, 0, 2), 0);
        is("turn 3", x.fires(0, 0, 3), BAD);
        is("turn -1", x.fires(0, 0, -1), BAD);
        is("no maker", x.fires(1, 0, 0), BAD);
        is("empty", x.fires(0, 1, 0), BAD);
        is("place 20", x.fires(0, 20, 0), BAD);
    }

    private static void never() {
        DUE.topic("20 never");
        MakersBench x = withMaker(0, 0, 1, 0, 2, 0, 3, 0, 4, 0, 5, 0, 6, 0, 0, 0, 1, 0, 2, 0);
        is("no programs", x.never(0), 1023);
        put(x, 0, "#1 #2 +");
        is("one", x.never(0), 1022);
        put(x, 19, "a #2 *");
        is("two", x.never(0), 1022 - 32);
        x.drop(0);
        is("dropped", x.never(0), 1023 - 32);
        x.maker();
        is("without turns", x.never(1), 0);
        is("no maker", x.never(2), BAD);
        is("maker -1", x.never(-1), BAD);
    }

    private static void differ() {
        DUE.topic("21 differ");
        MakersBench x = withMaker(1, 1);
        put(x, 0, "#0 a -");
        for (int k = 0; k <= 6; k++) {
            is("within " + k, x.differ(0, 0, k), 2 * k * (2 * k + 1));
        }
        put(x, 1, "a b +");
        is("none", x.differ(0, 1, 6), 0);
        put(x, 2, "#0 a b #2 - / -");
        is("SAFE within 1", x.differ(0, 2, 1), 2);
        is("not SAFE within 2", x.differ(0, 2, 2), NOT);
        is("k 7", x.differ(0, 2, 7), BAD);
        is("k -1", x.differ(0, 0, -1), BAD);
        is("no maker", x.differ(1, 0, 0), BAD);
        is("empty", x.differ(0, 3, 0), BAD);
        is("place 20", x.differ(0, 20, 0), BAD);
        // What was MADE may be FREE where the program is not.
        MakersBench y = withMaker(3, 2);
        put(y, 0, "#0 #1 #0 / a if");
        is("FREE is another answer", y.differ(0, 0, 1), 9);
    }

    private static void first() {
        DUE.topic("22 first");
        MakersBench x = withMaker(1, 1);
        put(x, 0, "#0 a #6 + -");
        is("a ahead of b", x.first(0, 0, 6), 100);
        put(x, 1, "#0 b #2 + -");
        is("b", x.first(0, 1, 2), 405);
        is("none within", x.first(0, 1, 0), 606);
        put(x, 2, "#0 a -");
        is("not within 0", x.first(0, 2, 0), NONE);
        is("within 1", x.first(0, 2, 1), 505);
        is("within 6", x.first(0, 2, 6), 0);
        put(x, 3, "#0 a b #2 - / -");
        is("not SAFE", x.first(0, 3, 2), NOT);
        is("k 7", x.first(0, 3, 7), BAD);
        is("k -1", x.first(0, 0, -1), BAD);
        is("no maker", x.first(1, 0, 0), BAD);
        is("empty", x.first(0, 4, 0), BAD);
        is("place -1", x.first(0, -1, 0), BAD);
    }

    private static void cause() {
        DUE.topic("23 cause");
        MakersBench x = withMaker(0, 0, 1, 1, 6, 2, 2, 1);
        put(x, 0, "#0 a -");
        is("turn 1", x.cause(0, 0, 5, 0), 1);
        is("none for 0", x.cause(0, 0, 0, 0), NOT);
        is("far out", x.cause(0, 0, Integer.MAX_VALUE, 0), 1);
        put(x, 1, "a b neg -");
        is("turn 2", x.cause(0, 1, 5, 1), 2);
        put(x, 2, "b b +");
        is("turn 3", x.cause(0, 2, 5, 1), 3);
        put(x, 3, "a b /");
        is("FREE in the program", x.cause(0, 3, 1, 0), NOT);
        is("not FREE", x.cause(0, 3, 1, 1), NOT);
        is("no maker", x.cause(1, 0, 0, 0), BAD);
        is("maker -1", x.cause(-1, 0, 0, 0), BAD);
        is("empty", x.cause(0, 4, 0, 0), BAD);
        is("place 20", x.cause(0, 20, 0, 0), BAD);
        // Wrong in between, right again at the end: the turn that first made it wrong.
        MakersBench y = withMaker(1, 1, 0, 1);
        put(y, 0, "#0 #3 #0 - -");
        is("first wrong turn", y.cause(0, 0, 0, 0), 0);
        MakersBench z = withMaker(0, 0, 3, 2);
        put(z, 0, "#0 #1 #0 / #4 if");
        is("something FREE is never right", z.cause(0, 0, 0, 0), 1);
    }

    private static void small() {
        DUE.topic("24 small");
        MakersBench x = withMaker(1, 1);
        put(x, 0, "#0 a b * - a + neg");
        is("small", x.small(0, 0, 2), 3);
        same("the program", told(x, 0), "- #0 a");
        is("steps", x.steps(), 3);
        // Each leaf that can be 0 becomes 0.
        MakersBench y = withMaker(0, 2);
        put(y, 0, "#300 #300 * b +");
        is("small", y.small(0, 0, 1), 3);
        same("the program", told(y, 0), "* #300 #300");
        is("steps", y.steps(), 1);
        // A STEP that leaves something FREE is not done.
        MakersBench z = withMaker(1, 1);
        put(z, 0, "#0 a #3 / -");
        is("small", z.small(0, 0, 3), 3);
        same("the program", told(z, 0), "- #0 a");
        put(z, 1, "#0 #1 a #9 - / -");
        is("no difference", z.small(0, 1, 0), NOT);
        put(z, 2, "#0 #9 a #9 - / -");
        is("small", z.small(0, 2, 1), 3);
        same("the program", told(z, 2), "- #0 #9");
        // NOT, and as it was.
        put(z, 3, "#0 a b / -");
        is("not SAFE", z.small(0, 3, 1), NOT);
        same("the program", told(z, 3), "- #0 / a b");
        is("steps of the latest", z.steps(), 1);
        is("k 7", z.small(0, 0, 7), BAD);
        is("k -1", z.small(0, 0, -1), BAD);
        is("no maker", z.small(1, 0, 0), BAD);
        is("empty", z.small(0, 9, 0), BAD);
        is("place 20", z.small(0, 20, 0), BAD);
        smallInOrder();
    }

    /** The order in which STEPS are tried shows in what stays. */
    private static void smallInOrder() {
        MakersBench x = withMaker(4, 2);
        put(x, 0, "a a b if neg b b #1 if *");
        x.small(0, 0, 1);
        same("the first PART ahead of the second", told(x, 0), "if a a b");
        put(x, 1, "a b b #1 if a a #2 if if");
        x.small(0, 1, 1);
        same("the second PART ahead of the third", told(x, 1), "if b b #1");
    }

    private static void steps() {
        DUE.topic("25 steps");
        MakersBench x = withMaker(1, 1);
        is("before any", x.steps(), BAD);
        put(x, 0, "a b +");
        is("refused", x.small(0, 0, 1), NOT);
        is("still before any", x.steps(), BAD);
        put(x, 0, "#0 a -");
        x.small(0, 0, 1);
        is("none", x.steps(), 0);
        put(x, 0, "#0 a - neg neg");
        x.small(0, 0, 1);
        is("two", x.steps(), 2);
        x.small(0, 5, 1);
        is("of the latest not refused", x.steps(), 2);
    }

    private static void least() {
        DUE.topic("26 least");
        MakersBench x = withMaker(0, 0, 3, 0, 4, 0, 6, 0, 2, 0);
        is("FOLD", x.least(0, 0, 1), NONE);
        is("FOLD", x.least(0, 0, 2), 2);
        is("FOLD", x.least(0, 0, 5), 2);
        is("PICK: if #0 #0 #0", x.least(0, 1, 5), 16 * 305 + 4);
        is("PICK", x.least(0, 1, 3), NONE);
        is("MELT: if a #0 #0", x.least(0, 2, 4), 16 * (305 + 75) + 4);
        is("SINK: neg neg a", x.least(0, 3, 5), 16 * 3 + 3);
        is("SAME: a LESS a", x.least(0, 4, 5), 16 * (30 + 18) + 3);
        is("n 0", x.least(0, 0, 0), BAD);
        is("n 6", x.least(0, 0, 6), BAD);
        is("n -1", x.least(0, 0, -1), BAD);
        is("turn 5", x.least(0, 5, 1), BAD);
        is("turn -1", x.least(0, -1, 1), BAD);
        is("no maker", x.least(1, 0, 1), BAD);
        is("maker -1", x.least(-1, 0, 1), BAD);
        MakersBench z = withMaker(0, 0, 5, 2);
        is("TWICE behind FOLD: 2 TIMES a", z.least(0, 1, 3), 16 * (55 + 13) + 3);
        MakersBench y = withMaker(1, 0);
        is("ZERO: 0 ADD 0", y.least(0, 0, 3), 16 * 5 + 3);
        is("nothing is kept", y.count(0), 0);
    }

    private static void shown() {
        DUE.topic("27 shown");
        MakersBench x = withMaker(1, 2);
        is("SIZE 1", x.shown(0, 1, 0, 0), 5);
        is("SIZE 2", x.shown(0, 2, 2, 0), 5);
        // Of the 25 OVER those by 0, a, b are not SAFE: 15.
        is("SIZE 3", x.shown(0, 3, 0, 0), 105 - 15);
        is("SIZE 3", x.shown(0, 3, 2, 0), 105 - 15);
        is("within 0: 2 TIMES 0, 0 TIMES 2", x.shown(0, 3, 0, 1), 2);
        is("within 1: a TIMES 0, b TIMES 0 and turned round, too", x.shown(0, 3, 1, 1), 6);
        is("n 0", x.shown(0, 0, 0, 0), BAD);
        is("n 6", x.shown(0, 6, 0, 0), BAD);
        is("k 3", x.shown(0, 1, 3, 0), BAD);
        is("k -1", x.shown(0, 1, -1, 0), BAD);
        is("what 2", x.shown(0, 1, 0, 2), BAD);
        is("what -1", x.shown(0, 1, 0, -1), BAD);
        is("no maker", x.shown(1, 1, 0, 0), BAD);
        is("maker -1", x.shown(-1, 1, 0, 0), BAD);
        is("nothing is kept", x.count(0), 0);
    }

    private static void count() {
        DUE.topic("28 count");
        MakersBench x = withMaker(0, 0);
        put(x, 0, "a b +");
        put(x, 19, "a neg");
        x.node(A, 0);
        x.node(B, 0);
        x.node(NEG, 0);
        int[] want = {2, 1, 2, 3, 5};
        for (int what = 0; what < 5; what++) {
            is("count(" + what + ")", x.count(what), want[what]);
        }
        is("count(5)", x.count(5), BAD);
        is("count(-1)", x.count(-1), BAD);
        is("count(least)", x.count(Integer.MIN_VALUE), BAD);
        x.drop(0);
        is("programs", x.count(0), 1);
        is("nodes", x.count(4), 2);
    }

    private static void ofMaker() {
        DUE.topic("29 ofMaker");
        MakersBench x = withMaker(6, 2, 0, 0, 3, 1);
        is("how many", x.ofMaker(0, -1), 3);
        is("turn 0", x.ofMaker(0, 0), 62);
        is("turn 1", x.ofMaker(0, 1), 0);
        is("turn 2", x.ofMaker(0, 2), 31);
        is("turn 3", x.ofMaker(0, 3), BAD);
        is("turn -2", x.ofMaker(0, -2), BAD);
        is("turn least", x.ofMaker(0, Integer.MIN_VALUE), BAD);
        is("no maker", x.ofMaker(1, -1), BAD);
        is("maker -1", x.ofMaker(-1, -1), BAD);
    }
}
