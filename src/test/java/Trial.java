/** What the tests share: programs as words, makers as rows of numbers, answers held against what is due. */
abstract class Trial {
    static final int BAD = -1, NOT = -2, FULL = -3, VOID = -2000000000, NONE = -5;
    static final int A = 1, B = 2, NEG = 3, ADD = 4, LESS = 5, TIMES = 6, OVER = 7, IF = 8;
    static final int LEAST = Integer.MIN_VALUE, MOST = Integer.MAX_VALUE;
    /** More NODES than any tree has: no telling goes on beyond. */
    private static final int ENOUGH = 250;
    static final Due DUE = new Due();

    /** A call, of one of its arguments. */
    interface Ask {
        long of(int argument);
    }

    /**
     * Each of low .. high is answered as it is due; just outside, far off, and where only the lowest bits are
     * within, it is refused.
     */
    static void range(String call, int low, int high, long refused, Ask ask, Ask due) {
        for (int x = low; x <= high; x++) {
            is(call + ", " + x, ask.of(x), due.of(x));
        }
        int[] outside = {low - 1, low - 2, high + 1, high + 2, LEAST, LEAST + low, MOST, low + 256, low - 256,
            low + 65536, low - 65536, high + (1 << 30)};
        for (int x : outside) {
            if (x < low || x > high) {
                is(call + ", " + x, ask.of(x), refused);
            }
        }
    }

    static void is(String call, long got, long want) {
        DUE.is(call, got, want);
    }

    /** Numbers are written as #v; other words are kinds, in the order of node(). */
    static int put(MakersBench x, int place, String postfix) {
        for (String word : postfix.split(" ")) {
            int answer;
            if (word.startsWith("#")) {
                answer = x.node(0, Integer.parseInt(word.substring(1)));
            } else {
                answer = x.node(kind(word), 0);
            }
            DUE.holds("node for " + word + " of " + postfix, answer > 0);
        }
        return x.keep(place);
    }

    static int kind(String word) {
        switch (word) {
            case "a": return A;
            case "b": return B;
            case "neg": return NEG;
            case "+": return ADD;
            case "-": return LESS;
            case "*": return TIMES;
            case "/": return OVER;
            case "if": return IF;
            default: return -9;
        }
    }

    /** The nodes in the order of STEPS, as words. */
    static String told(MakersBench x, int place) {
        StringBuilder out = new StringBuilder();
        for (int i = 0; i < ENOUGH && x.read(place, i, 0) != VOID; i++) {
            word(out, x.read(place, i, 0), x.read(place, i, 1));
        }
        return out.toString();
    }

    static String toldPart(MakersBench x) {
        StringBuilder out = new StringBuilder();
        for (int i = 0; i < ENOUGH && x.part(i, 0) != VOID; i++) {
            word(out, x.part(i, 0), x.part(i, 1));
        }
        return out.toString();
    }

    /** v is 0 but of NUMBERS: another one shows. */
    static void word(StringBuilder out, int kind, int v) {
        String[] words = {"#" + v, "a", "b", "neg", "+", "-", "*", "/", "if"};
        out.append(out.length() == 0 ? "" : " ").append(kind < 0 || kind >= words.length ? "?" : words[kind]);
        out.append(kind != 0 && v != 0 ? "!" + v : "");
    }

    /** The SIZE of the NODE i of a tree told by its words; each SIZE of it is put into a row. */
    static int sizes(String[] words, int i, int[] out) {
        String word = i < words.length ? words[i] : "?";
        int parts = "+-*/".contains(word) ? 2 : word.equals("neg") ? 1 : word.equals("if") ? 3 : 0;
        int size = 1;
        for (int part = 0; part < parts && i + size < words.length; part++) {
            size += sizes(words, i + size, out);
        }
        out[i] = size;
        return size;
    }

    static void same(String what, String got, String want) {
        if (!got.equals(want)) {
            System.out.println(what + " is " + got + ", due is " + want);
        }
        DUE.holds(what, got.equals(want));
    }

    static MakersBench withMaker(int... sortsAndFaults) {
        MakersBench x = new MakersBench();
        addMaker(x, sortsAndFaults);
        return x;
    }

    static int addMaker(MakersBench x, int... sortsAndFaults) {
        int m = x.maker();
        for (int i = 0; i < sortsAndFaults.length; i += 2) {
            x.turn(m, sortsAndFaults[i], sortsAndFaults[i + 1]);
        }
        return m;
    }

    /** What one turn makes of a program, and how often it fires. */
    static void turns(int sort, int fault, String postfix, String want, int fired) {
        MakersBench x = withMaker(sort, fault);
        put(x, 0, postfix);
        x.made(0, 0, 1);
        String what = "sort " + sort + " fault " + fault + " of " + postfix;
        same(what, toldPart(x), want);
        String[] words = want.split(" ");
        int[] sizes = new int[words.length];
        is("SIZE: " + what, sizes(words, 0, sizes), words.length);
        for (int i = 0; i < sizes.length; i++) {
            is("SIZE of NODE " + i + ": " + what, x.part(i, 2), sizes[i]);
        }
        is("fires: " + what, x.fires(0, 0, 0), fired);
    }

    /** Behind a space, a leaf and as many NEG as make this many NODES. */
    static String chain(String leaf, int nodes) {
        StringBuilder out = new StringBuilder(" " + leaf);
        for (int i = 1; i < nodes; i++) {
            out.append(" neg");
        }
        return out.toString();
    }
}
