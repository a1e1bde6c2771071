/** The sentences of the document's terms that name a bound or an edge, each on both of its sides. */
public final class TermsTest extends Trial {
    public static void main(String[] args) {
        wraps();
        towardsZero();
        free();
        ifWorksOutOne();
        safeWithin();
        safeAtOnePoint();
        numbered();
        foldAsShort();
        foldLess();
        zeroByNumbers();
        sameOrNot();
        pickBelowZero();
        meltBySize();
        twiceUpTo200();
        twiceWhenFull();
        costUpToFree();
        differenceAtOnePoint();
        differenceInOrder();
        firstTurn();
        firstTurnFree();
        neverAsBits();
        smallSteps();
        smallWithin();
        smallLong();
        DUE.end();
    }

    // ---- values

    private static void wraps() {
        DUE.topic("ints that wrap");
        combines("+", MOST, 0, MOST);
        combines("+", MOST, 1, LEAST);
        combines("+", MOST, MOST, -2);
        combines("+", LEAST, -1, MOST);
        combines("+", LEAST, LEAST, 0);
        combines("-", LEAST, 0, LEAST);
        combines("-", LEAST, 1, MOST);
        combines("-", 0, LEAST, LEAST);
        combines("-", -1, LEAST, MOST);
        combines("-", MOST, -1, LEAST);
        combines("*", 46340, 46340, 2147395600);
        combines("*", 46341, 46341, -2147479015);
        combines("*", 65536, 32767, 2147418112);
        combines("*", 65536, 32768, LEAST);
        combines("*", 65536, 65536, 0);
        combines("*", LEAST, -1, LEAST);
        combines("*", LEAST, 2, 0);
        combines("*", MOST, MOST, 1);
        combines("/", LEAST, -1, LEAST);
        combines("/", LEAST + 1, -1, MOST);
        combines("/", LEAST, 1, LEAST);
        combines("/", LEAST, LEAST, 1);
        combines("/", MOST, LEAST, 0);
        negIs(LEAST, LEAST);
        negIs(LEAST + 1, MOST);
        negIs(MOST, LEAST + 1);
        negIs(0, 0);
    }

    private static void towardsZero() {
        DUE.topic("OVER towards 0");
        int[][] all = {{7, 2, 3}, {-7, 2, -3}, {7, -2, -3}, {-7, -2, 3}, {6, 2, 3}, {-6, 2, -3}, {8, 3, 2}, {-8, 3, -2},
            {1, 2, 0}, {-1, 2, 0}, {1, -2, 0}, {-1, -2, 0}, {0, 5, 0}, {0, -5, 0}, {-1, MOST, 0}, {-2, 2, -1},
            {MOST, 2, 1073741823}, {LEAST, 2, -1073741824}, {LEAST + 1, 2, -1073741823}};
        for (int[] one : all) {
            combines("/", one[0], one[1], one[2]);
        }
    }

    /** As INPUTS, as NUMBERS, as an ANSWER, and as FOLD makes a NUMBER of it. */
    private static void combines(String word, int x, int y, int want) {
        MakersBench bench = withMaker();
        addMaker(bench, 0, 0);
        put(bench, 0, "a b " + word);
        put(bench, 1, "#" + x + " #" + y + " " + word);
        String what = x + " " + word + " " + y;
        is("of INPUTS " + what, bench.value(0, x, y), want);
        is("of NUMBERS " + what, bench.value(1, 0, 0), want);
        is("ANSWER " + what, bench.answer(0, 0, x, y), want);
        is("FOLD makes one NODE of " + what, bench.made(1, 1, 1), 1);
        is("FOLD " + what, bench.part(0, 1), want);
        is("ANSWER behind FOLD " + what, bench.answer(1, 1, 0, 0), want);
    }

    private static void negIs(int x, int want) {
        MakersBench bench = withMaker(0, 0);
        put(bench, 0, "a neg");
        put(bench, 1, "#" + x + " neg");
        is("NEG " + x, bench.value(0, x, 0), want);
        is("NEG of NUMBER " + x, bench.value(1, 0, 0), want);
        is("FOLD", bench.made(0, 1, 1), 1);
        is("FOLD of NEG " + x, bench.part(0, 1), want);
    }

    // ---- what is FREE

    private static void free() {
        DUE.topic("OVER by 0");
        for (int x : new int[] {0, 1, -1, LEAST, MOST}) {
            valueIs("a b /", x, 0, VOID);
            valueIs("a b /", x, 1, x);
            valueIs("a b /", x, -1, -x);
        }
        valueIs("#5 a b - /", 3, 3, VOID);
        valueIs("#5 a b - /", 3, 4, -5);
        valueIs("#5 a b * /", 65536, 65536, VOID);
        valueIs("#5 a b + /", LEAST, LEAST, VOID);
        valueIs("#5 a b / /", 1, 2, VOID);
        valueIs("#5 a b / /", 2, 2, 5);
        valueIs("a #0 / neg", 1, 0, VOID);
        valueIs("a #0 / #0 *", 1, 0, VOID);
        valueIs("#0 a #0 / *", 1, 0, VOID);
        valueIs("a #0 / a #0 / -", 1, 0, VOID);
        valueIs("a #0 / b b if", 0, 0, VOID);
        MakersBench x = withMaker(0, 0);
        put(x, 0, "#7 #0 /");
        is("FOLD leaves OVER by 0", x.made(0, 0, 1), 3);
        is("FOLD does not fire", x.fires(0, 0, 0), 0);
        is("ANSWER", x.answer(0, 0, 0, 0), VOID);
        put(x, 1, "#7 #1 #1 - /");
        is("FOLD leaves OVER by what is 0 by then", x.made(0, 1, 1), 3);
        is("FOLD fires once", x.fires(0, 1, 0), 1);
    }

    private static void valueIs(String program, int a, int b, int want) {
        MakersBench x = withMaker();
        put(x, 0, program);
        is("value of " + program + " for " + a + ", " + b, x.value(0, a, b), want);
        is("answer of " + program + " for " + a + ", " + b, x.answer(0, 0, a, b), want);
    }

    private static void ifWorksOutOne() {
        DUE.topic("IF works out one");
        for (int x : new int[] {1, -1, 2, LEAST, MOST}) {
            valueIs("a b #9 if", x, 4, 4);
            valueIs("a b #1 #0 / if", x, 4, 4);
            valueIs("a #1 #0 / b if", x, 4, VOID);
        }
        valueIs("a b #9 if", 0, 4, 9);
        valueIs("a #1 #0 / b if", 0, 4, 4);
        valueIs("a b #1 #0 / if", 0, 4, VOID);
        valueIs("a b * #5 #6 if", 65536, 65536, 6);
        valueIs("a b * #5 #6 if", 65536, 65535, 5);
        valueIs("a a b / b #1 a / #7 if if", 0, 0, 7);
        valueIs("a a b / b #1 a / #7 if if", 1, 0, VOID);
        valueIs("a a b / b #1 a / #7 if if", 0, 1, VOID);
    }

    // ---- SAFE

    private static void safeWithin() {
        DUE.topic("SAFE within k");
        for (String input : new String[] {"a", "b"}) {
            for (int c = -7; c <= 7; c++) {
                MakersBench x = withMaker();
                put(x, 0, "#1 " + input + " #" + c + " - /");
                for (int k = 0; k <= 6; k++) {
                    boolean safe = Math.abs(c) > k;
                    String what = "FREE for " + input + " " + c + ", within " + k;
                    is("safe, " + what, x.safe(0, k), safe ? 1 : 0);
                    is("differ, " + what, x.differ(0, 0, k), safe ? 0 : NOT);
                    is("first, " + what, x.first(0, 0, k), safe ? NONE : NOT);
                    is("small, " + what, x.small(0, 0, k), NOT);
                }
            }
        }
    }

    /** 0 for just this a, b. */
    private static String apart(int a, int b) {
        String x = "a #" + a + " -";
        String y = "b #" + b + " -";
        return x + " " + x + " * " + y + " " + y + " * +";
    }

    private static void safeAtOnePoint() {
        DUE.topic("SAFE, FREE for one a, b");
        for (int k = 0; k <= 6; k++) {
            int[][] points = {{-k, -k}, {-k, k}, {k, -k}, {k, k}, {0, k}, {-k, 0}, {k + 1, 0}, {-k - 1, 0}, {0, k + 1},
                {0, -k - 1}, {k + 1, k}, {-k, -k - 1}};
            for (int[] p : points) {
                MakersBench x = new MakersBench();
                put(x, 0, "#1 " + apart(p[0], p[1]) + " /");
                boolean safe = Math.max(Math.abs(p[0]), Math.abs(p[1])) > k;
                is("FREE for " + p[0] + ", " + p[1] + ", within " + k, x.safe(0, k), safe ? 1 : 0);
                is("value there", x.value(0, p[0], p[1]), VOID);
            }
        }
    }

    // ---- BY NUMBER

    private static void numbered() {
        DUE.topic("NUMBERS 0, 1, 2 alone");
        int[] numbers = {LEAST, -1, 0, 1, 2, 3, 256, 65536, MOST};
        for (int v : numbers) {
            MakersBench x = new MakersBench();
            put(x, 0, "#" + v);
            put(x, 1, "a #" + v + " +");
            put(x, 2, "#" + v + " b b if");
            boolean is = v >= 0 && v <= 2;
            is("number of " + v, x.number(0), is ? v : NOT);
            is("number of a ADD " + v, x.number(1), is ? 5 + 15 + v : NOT);
            is("number of IF " + v, x.number(2), is ? 305 + 25 * v + 24 : NOT);
        }
        DUE.topic("SIZE 1 .. 15");
        for (int size = 13; size <= 17; size++) {
            MakersBench x = new MakersBench();
            put(x, 0, chain("a", size).trim());
            is("number of a chain of SIZE " + size, x.number(0), size <= 15 ? 3 : NOT);
        }
        MakersBench x = new MakersBench();
        put(x, 0, chain("#3", 15).trim());
        is("SIZE 15 with a 3", x.number(0), NOT);
        put(x, 0, chain("#3", 60).trim());
        is("SIZE 60", x.number(0), NOT);
    }

    // ---- FAULTS

    private static void foldAsShort() {
        DUE.topic("only the lowest 16 bits, as a short");
        int[][] all = {{32767, 32767}, {32768, -32768}, {32769, -32767}, {65535, -1}, {65536, 0}, {65537, 1},
            {-32767, -32767}, {-32768, -32768}, {-32769, 32767}, {-65536, 0}, {-65537, -1}, {MOST, -1}, {LEAST, 0},
            {0, 0}, {1, 1}, {-1, -1}, {98304, -32768}};
        for (int[] one : all) {
            turns(0, 2, "#" + one[0] + " #1 *", "#" + one[1], 1);
            turns(0, 2, "#1 #" + one[0] + " *", "#" + one[1], 1);
            turns(0, 1, "#" + one[0] + " #1 *", "#" + one[0], 1);
            turns(0, 0, "#" + one[0] + " #1 *", "#" + one[0], 1);
            turns(0, 2, "#" + one[0] + " #0 +", "#" + one[0], 1);
            turns(0, 2, "#" + one[0] + " #0 -", "#" + one[0], 1);
            turns(0, 2, "#" + one[0] + " #1 /", "#" + one[0], 1);
        }
        turns(0, 2, "#65536 #65536 *", "#0", 1);
        turns(0, 2, "#181 #181 *", "#32761", 1);
        turns(0, 2, "#182 #181 *", "#-32594", 1);
    }

    private static void foldLess() {
        DUE.topic("of LESS the second PART less the first");
        turns(0, 1, "#0 #-2147483648 -", "#-2147483648", 1);
        turns(0, 1, "#-2147483648 #0 -", "#-2147483648", 1);
        turns(0, 1, "#1 #-2147483648 -", "#2147483647", 1);
        turns(0, 1, "#4 #4 -", "#0", 1);
        turns(0, 1, "#4 neg", "#-4", 1);
        turns(0, 1, "#9 #3 /", "#3", 1);
    }

    private static void zeroByNumbers() {
        DUE.topic("ZERO, by 0 and 1 alone");
        for (int fault = 0; fault <= 2; fault++) {
            for (int v : new int[] {-1, 2, 256, 65536, LEAST, MOST}) {
                for (String word : new String[] {"+", "-", "*", "/"}) {
                    turns(1, fault, "a #" + v + " " + word, word + " a #" + v, 0);
                    turns(1, fault, "#" + v + " a " + word, word + " #" + v + " a", 0);
                }
            }
            turns(1, fault, "a #1 -", "- a #1", 0);
            turns(1, fault, "#1 a -", "- #1 a", 0);
            turns(1, fault, "#1 a +", "+ #1 a", 0);
            turns(1, fault, "a #0 /", "/ a #0", 0);
            turns(1, fault, "#0 #0 -", "#0", 1);
            turns(1, fault, "#0 #0 /", "/ #0 #0", 0);
            turns(1, fault, "#0 #1 /", "#0", 1);
            turns(1, fault, "#7 #0 +", "#7", 1);
            turns(1, fault, "#0 #7 +", "#7", 1);
            turns(1, fault, "#0 #7 *", fault == 2 ? "#7" : "#0", 1);
            turns(1, fault, "#7 #0 *", fault == 2 ? "#7" : "#0", 1);
            turns(1, fault, "#0 #7 -", fault == 1 ? "#7" : "- #0 #7", fault == 1 ? 1 : 0);
            turns(1, fault, "#0 #1 #0 if", "if #0 #1 #0", 0);
        }
    }

    private static void sameOrNot() {
        DUE.topic("SAME");
        for (int fault = 0; fault <= 2; fault++) {
            int f = fault;
            turns(2, f, "#5 #5 -", "#0", 1);
            turns(2, f, "#5 #6 -", "- #5 #6", 0);
            turns(2, f, "#5 #-5 -", "- #5 #-5", 0);
            turns(2, f, "#0 #65536 -", "- #0 #65536", 0);
            turns(2, f, "#0 a -", "- #0 a", 0);
            turns(2, f, "b b -", "#0", 1);
            turns(2, f, "a b -", "- a b", 0);
            // The tops are of one KIND; of FAULT 2 what hangs on them may be other NODES, but not more.
            turns(2, f, "#5 neg #6 neg -", f == 2 ? "#0" : "- neg #5 neg #6", f == 2 ? 1 : 0);
            turns(2, f, "a neg neg a neg -", "- neg neg a neg a", 0);
            turns(2, f, "a #5 + b #6 + -", f == 2 ? "#0" : "- + a #5 + b #6", f == 2 ? 1 : 0);
            turns(2, f, "a #5 + a #5 - -", "- + a #5 - a #5", 0);
            turns(2, f, "a #5 + a #5 neg + -", "- + a #5 + a neg #5", 0);
            turns(2, f, "a b #1 if a b #2 if -", f == 2 ? "#0" : "- if a b #1 if a b #2", f == 2 ? 1 : 0);
            turns(2, f, "a b #1 if a b #1 if -", "#0", 1);
            turns(2, f, "a a +", f == 1 ? "#0" : "+ a a", f == 1 ? 1 : 0);
            turns(2, f, "#5 #6 +", "+ #5 #6", 0);
            turns(2, f, "a a /", "/ a a", 0);
        }
    }

    private static void pickBelowZero() {
        DUE.topic("PICK");
        int[] numbers = {LEAST, -2, -1, 0, 1, 2, MOST};
        for (int v : numbers) {
            String program = "#" + v + " a b if";
            turns(3, 0, program, v != 0 ? "a" : "b", 1);
            turns(3, 1, program, v > 0 ? "a" : "b", 1);
            turns(3, 2, program, "a", 1);
        }
        for (int fault = 0; fault <= 2; fault++) {
            turns(3, fault, "#1 neg a b if", "if neg #1 a b", 0);
            turns(3, fault, "b #1 #2 if", "if b #1 #2", 0);
            turns(3, fault, "a #1 #2 if", "if a #1 #2", 0);
        }
    }

    private static void meltBySize() {
        DUE.topic("MELT");
        for (int fault = 0; fault <= 2; fault++) {
            int f = fault;
            turns(4, f, "a #5 #5 if", "#5", 1);
            turns(4, f, "a #5 #6 if", f == 1 ? "#5" : "if a #5 #6", f == 1 ? 1 : 0);
            turns(4, f, "a b neg b neg if", "neg b", 1);
            turns(4, f, "a b neg b neg neg if", "if a neg b neg neg b", 0);
            turns(4, f, "a b neg neg b neg if", "if a neg neg b neg b", 0);
            turns(4, f, "a b neg b if", "if a neg b b", 0);
            turns(4, f, "a b #1 + b neg neg if", f == 1 ? "+ b #1" : "if a + b #1 neg neg b", f == 1 ? 1 : 0);
            turns(4, f, "a a neg b if", "if a neg a b", 0);
            turns(4, f, "a neg a neg b if", f == 2 ? "neg a" : "if neg a neg a b", f == 2 ? 1 : 0);
            turns(4, f, "b a neg b if", "if b neg a b", 0);
            turns(4, f, "#1 #2 neg #3 if", "if #1 neg #2 #3", 0);
        }
    }

    // ---- TWICE

    /** a, doubled this many times: 1 + 2n NODES, of which TWICE makes 2 to the n + 1, less 1. */
    private static String doubled(int n) {
        return "a" + " #2 *".repeat(n);
    }

    private static void twiceUpTo200() {
        DUE.topic("at most 200 NODES");
        String big = doubled(6);
        String[] lasts = {doubled(5), "#2 " + doubled(4) + " *", doubled(4) + " #3 *", "#3 " + doubled(4) + " *",
            doubled(4) + " #2 /"};
        int[][] faults = {{0, 1, 2}, {0, 1, 2}, {1}, {1}, {2}};
        for (int i = 0; i < lasts.length; i++) {
            for (int fault : faults[i]) {
                for (int more = 7; more <= 9; more++) {
                    // 127, 63 if the last one fires, else 33; two ADD.
                    int want = more <= 8 ? 127 + 63 + 2 + more : 127 + 33 + 2 + more;
                    int fired = more <= 8 ? 11 : 10;
                    doubles(fault, big + " " + lasts[i] + " +" + chain("b", more) + " +", want, fired);
                    doubles(fault, chain("b", more).trim() + " " + big + " " + lasts[i] + " + +", want, fired);
                    // The larger one behind: of it the last one that would fire is the top.
                    int turned = more <= 8 ? want : 65 + 63 + 2 + more;
                    doubles(fault, lasts[i] + " " + big + " +" + chain("b", more) + " +", turned, fired);
                }
            }
        }
    }

    private static void twiceWhenFull() {
        DUE.topic("200 NODES already");
        String large = doubled(6) + " " + doubled(5) + " + ";
        doubles(0, large + "b #2 *" + " neg".repeat(5) + " +", 200, 12);
        doubles(0, large + "#2 b *" + " neg".repeat(5) + " +", 200, 12);
        doubles(0, large + "#2 #2 *" + " neg".repeat(5) + " +", 200, 12);
        doubles(0, large + "b neg #2 *" + " neg".repeat(3) + " +", 200, 12);
        doubles(0, large + "b neg #2 *" + " neg".repeat(4) + " +", 200, 11);
        doubles(1, large + "b #3 *" + " neg".repeat(5) + " +", 200, 12);
        doubles(1, large + "#3 b *" + " neg".repeat(5) + " +", 200, 12);
        doubles(1, large + "b neg #3 *" + " neg".repeat(3) + " +", 200, 12);
        doubles(1, large + "b neg #3 *" + " neg".repeat(4) + " +", 200, 11);
        doubles(2, large + "b #2 /" + " neg".repeat(5) + " +", 200, 12);
        doubles(2, large + "b neg #2 /" + " neg".repeat(3) + " +", 200, 12);
        doubles(2, large + "b neg #2 /" + " neg".repeat(4) + " +", 200, 11);
        // Each TURN looks at the TREE as it is then.
        MakersBench x = withMaker(5, 0, 5, 0, 6, 0, 5, 0);
        put(x, 0, large + "b neg neg #2 *" + " neg".repeat(3) + " +");
        is("first TWICE", x.made(0, 0, 1), 200);
        is("second TWICE", x.fires(0, 0, 1), 0);
        // SINK takes both NEG of x, two of the three above it, and with the third one the top becomes LESS.
        is("SINK", x.made(0, 0, 3), 195);
        is("third TWICE", x.fires(0, 0, 3), 1);
        is("then", x.made(0, 0, 4), 195);
    }

    private static void doubles(int fault, String program, int want, int fired) {
        MakersBench x = withMaker(5, fault);
        put(x, 0, program);
        is("SIZE with FAULT " + fault + " of " + program, x.made(0, 0, 1), want);
        is("SIZE of its top", x.part(0, 2), want);
        is("its last NODE is there", x.part(want - 1, 2), 1);
        is("none behind it", x.part(want, 2), VOID);
        is("fires with FAULT " + fault + " of " + program, x.fires(0, 0, 0), fired);
    }

    // ---- COST

    private static void costUpToFree() {
        DUE.topic("COST up to the one that is FREE");
        costIs("#4", 1);
        costIs("#4 neg neg", 3);
        costIs("#4 #0 /", 3);
        costIs("#4 #1 /", 3);
        costIs("#4 #0 / neg", 3);
        costIs("#4 #1 / neg", 4);
        costIs("#4 #0 / #4 #0 / +", 3);
        costIs("#4 #1 / #4 #0 / +", 6);
        costIs("#4 #1 / #4 #1 / +", 7);
        costIs("#4 #0 / #1 #2 if", 3);
        costIs("#4 #1 / #1 #2 if", 3 + 1 + 1 + 1);
        costIs("#0 #1 #2 if", 1 + 1 + 1);
        costIs("#1 #1 #0 / #2 if", 1 + 1 + 3);
        costIs("#1 #1 #1 / #2 if", 1 + 1 + 3 + 1);
        costIs("#0 #1 #2 #0 / if", 1 + 1 + 3);
        costIs("#0 #1 #2 #1 / if", 1 + 1 + 3);
        costIs("#1 #1 #2 if neg", 1 + 1 + 1 + 1 + 1);
        costIs("#1 #2 #3 #4 if #5 if", 1 + 1 + (1 + 1 + 1 + 1) + 1);
        costIs(chain("a", 60).trim(), 60);
    }

    private static void costIs(String program, int want) {
        MakersBench x = withMaker();
        put(x, 0, program);
        is("cost of " + program, x.cost(0, 0, 7, 7), want);
    }

    // ---- DIFFERENCES

    /** 0 LESS what is 1 for just this a, b, and else 0: ZERO with FAULT 1 makes 1 of the VALUE -1. */
    private static String wrongAt(int a, int b) {
        return "#0 " + apart(a, b) + " #0 #1 if -";
    }

    private static void differenceAtOnePoint() {
        DUE.topic("a DIFFERENCE for one a, b");
        for (int k = 0; k <= 6; k++) {
            int[][] points = {{-k, -k}, {-k, k}, {k, -k}, {k, k}, {0, k}, {k, 0}, {k + 1, 0}, {-k - 1, k}, {0, k + 1},
                {-k, -k - 1}};
            for (int[] p : points) {
                MakersBench x = withMaker(0, 0, 1, 1);
                put(x, 0, wrongAt(p[0], p[1]));
                boolean within = Math.max(Math.abs(p[0]), Math.abs(p[1])) <= k;
                String what = " for " + p[0] + ", " + p[1] + " within " + k;
                is("value" + what, x.value(0, p[0], p[1]), -1);
                is("answer" + what, x.answer(0, 0, p[0], p[1]), 1);
                is("differ" + what, x.differ(0, 0, k), within ? 1 : 0);
                is("first" + what, x.first(0, 0, k), within ? 100 * (p[0] + 6) + p[1] + 6 : NONE);
                is("cause" + what, x.cause(0, 0, p[0], p[1]), 1);
                is("cause beside it" + what, x.cause(0, 0, p[0], p[1] + 1), NOT);
                int small = x.small(0, 0, k);
                DUE.holds("small" + what, within ? small > 0 && small <= 20 : small == NOT);
            }
        }
    }

    private static void differenceInOrder() {
        DUE.topic("the first a, b");
        firstOf(-1, 1, 0, -1, 507);
        firstOf(0, -1, -1, 1, 507);
        firstOf(0, -1, 0, 1, 605);
        firstOf(0, 1, 0, -1, 605);
        firstOf(-6, 6, -5, -6, 12);
        firstOf(6, 6, 6, -6, 1200);
        firstOf(6, 6, 6, 6, 1212);
        firstOf(-6, -6, 6, 6, 0);
    }

    private static void firstOf(int a, int b, int c, int d, int want) {
        MakersBench x = withMaker(1, 1);
        put(x, 0, "#0 " + apart(a, b) + " " + apart(c, d) + " #0 #1 if #1 if -");
        is("first of " + a + ", " + b + " and " + c + ", " + d, x.first(0, 0, 6), want);
        is("differ", x.differ(0, 0, 6), a == c && b == d ? 1 : 2);
    }

    private static void firstTurn() {
        DUE.topic("FIRST TURN");
        for (int at = 0; at < 10; at++) {
            MakersBench x = withMaker();
            for (int i = 0; i < 10; i++) {
                x.turn(0, i == at ? 1 : 0, i == at ? 1 : 0);
            }
            put(x, 0, "#0 a -");
            is("the TURN " + at, x.cause(0, 0, 1, 0), at);
            is("for the most", x.cause(0, 0, MOST, LEAST), at);
            is("for the least but one", x.cause(0, 0, LEAST + 1, MOST), at);
            is("for the least, which is its own NEG", x.cause(0, 0, LEAST, 0), NOT);
            is("for 0", x.cause(0, 0, 0, 0), NOT);
            x.plant(0, at, 0);
            is("without the FAULT", x.cause(0, 0, 1, 0), NOT);
        }
        // 0 LESS a becomes a in TURN 0, and once more in TURN 2, which makes it right; TURN 3 is wrong by itself.
        MakersBench x = withMaker(1, 1, 2, 0, 1, 1, 2, 1);
        put(x, 0, "b b - #0 a - - b b + +");
        is("right behind TURN 2", x.made(0, 0, 3), 5);
        same("behind TURN 2", toldPart(x), "+ a + b b");
        is("the least one", x.cause(0, 0, 1, 1), 0);
        x.plant(0, 0, 0);
        is("right behind all but the last", x.cause(0, 0, 1, 1), 3);
        x.plant(0, 3, 0);
        is("right behind all", x.cause(0, 0, 1, 1), NOT);
        x.plant(0, 0, 1);
        is("wrong behind TURN 0, right at last", x.cause(0, 0, 1, 1), 0);
        is("no DIFFERENCE then", x.differ(0, 0, 6), 0);
    }

    private static void firstTurnFree() {
        DUE.topic("FIRST TURN, FREE");
        // MELT takes the second PART, which is FREE, and ZERO takes that away again.
        MakersBench x = withMaker(4, 1, 1, 0);
        put(x, 0, "#0 b #0 / #7 b + if #0 *");
        put(x, 1, "#0 b #0 / #7 b + #1 + if #0 *");
        is("behind TURN 0 something FREE", x.made(0, 0, 1), 5);
        is("behind TURN 1 right again", x.answer(0, 0, 1, 1), 0);
        is("FREE is never right", x.cause(0, 0, 1, 1), 0);
        is("not MELT: other SIZES", x.cause(0, 1, 1, 1), NOT);
        is("in between is no DIFFERENCE", x.differ(0, 0, 2), 0);
        put(x, 2, "a b /");
        is("FREE in the PROGRAM", x.cause(0, 2, 1, 0), NOT);
        is("not FREE in the PROGRAM", x.cause(0, 2, 1, 1), NOT);
        MakersBench y = withMaker(4, 1);
        put(y, 0, "a b a / #7 a + if");
        is("FREE is another ANSWER", y.first(0, 0, 0), 606);
        is("for a = 0 and others", y.differ(0, 0, 1), 3);
        is("the ANSWER", y.answer(0, 0, 0, 1), VOID);
        is("the VALUE", y.value(0, 0, 1), 7);
    }

    private static void neverAsBits() {
        DUE.topic("NEVER as bits");
        for (int turns = 0; turns <= 10; turns++) {
            for (int at = 0; at < turns; at++) {
                MakersBench x = withMaker();
                for (int i = 0; i < turns; i++) {
                    x.turn(0, i == at ? 3 : 6, 0);
                }
                is("without programs, of " + turns, x.never(0), (1 << turns) - 1);
                put(x, 19, "#1 a b if");
                is("but for " + at + ", of " + turns, x.never(0), (1 << turns) - 1 - (1 << at));
                x.drop(19);
                is("of none kept any more", x.never(0), (1 << turns) - 1);
            }
        }
    }

    // ---- SMALL

    private static void smallSteps() {
        DUE.topic("STEPS");
        int[] zero = {1, 1};
        smallIs("#0 a -", zero, "- #0 a", 0);
        smallIs("#0 #1 -", zero, "- #0 #1", 0);
        smallIs("#0 b - a +", zero, "- #0 b", 1);
        smallIs("a #0 b - +", zero, "- #0 b", 1);
        smallIs("a #0 b - #1 if", zero, "- #0 b", 1);
        smallIs("a #1 #0 b - if", zero, "- #0 b", 1);
        // A NUMBER becomes 0, but not if it is that.
        int[] fold = {0, 1};
        smallIs("#5 #3 -", fold, "- #0 #3", 1);
        smallIs("#0 #3 -", fold, "- #0 #3", 0);
        smallIs("#3 #0 -", fold, "- #3 #0", 0);
        // An INPUT becomes 0.
        smallIs("a b neg -", new int[] {6, 2}, "- #0 neg b", 1);
        smallIs("b a neg -", new int[] {6, 2}, "- #0 neg a", 1);
        // What has PARTS becomes each of them first, and then 0.
        smallIs("a a - b -", new int[] {2, 0, 1, 1}, "- #0 b", 1);
    }

    private static void smallWithin() {
        DUE.topic("SMALL, SAFE with a DIFFERENCE");
        int[] melt = {4, 1};
        // The second PART is not worked out but in what is MADE: FREE there is a DIFFERENCE.
        smallIs("a #1 #2 / #3 #4 + if", melt, "if #0 / #0 #0 + #0 #0", 5);
        // The last PART is worked out: its 2 may not become 0. With the 4 becoming 0, there is no DIFFERENCE.
        smallIs("a #3 #4 + #1 #2 / if", melt, "if #0 + #0 #4 / #0 #2", 3);
        MakersBench x = withMaker(1, 1);
        put(x, 0, "#0 #9 a #3 - / -");
        is("not SAFE within 3", x.small(0, 0, 3), NOT);
        is("SAFE within 2", x.small(0, 0, 2), 3);
        same("within 2", told(x, 0), "- #0 #9");
        put(x, 1, "#0 a -");
        is("no DIFFERENCE within 0", x.small(0, 1, 0), NOT);
        is("a DIFFERENCE within 1", x.small(0, 1, 1), 3);
    }

    private static void smallIs(String program, int[] maker, String want, int steps) {
        MakersBench x = withMaker(maker);
        put(x, 0, program);
        is("small of " + program, x.small(0, 0, 1), want.split(" ").length);
        same("small of " + program, told(x, 0), want);
        is("steps of " + program, x.steps(), steps);
    }

    private static void smallLong() {
        DUE.topic("SMALL, of 60 NODES");
        MakersBench x = withMaker(1, 1);
        put(x, 0, "#0 a -" + " neg".repeat(57));
        is("SIZE", x.small(0, 0, 1), 3);
        is("steps", x.steps(), 57);
        is("once more", x.small(0, 0, 1), 3);
        is("steps then", x.steps(), 0);
    }
}
