import java.lang.reflect.Array;
import java.lang.reflect.Field;
import java.lang.reflect.Modifier;
import java.nio.file.Files;
import java.nio.file.Path;
import java.util.IdentityHashMap;
import java.util.Map;

/** What an object holds, that calls make none, and that its 512th call is answered as its first one is. */
public final class RoomTest extends Trial {
    private static final int CALLS = 512;
    /** Some 600,000 objects and 7.3 million elements are there for all objects of a run. */
    private static final int MOST_OBJECTS = 1000;
    private static final int MOST_ELEMENTS = 50000;

    public static void main(String[] args) throws Exception {
        room();
        madeInConstructorsAlone();
        lastCall();
        DUE.end();
    }

    // ---- what an object holds

    private static void room() throws Exception {
        DUE.topic("room");
        MakersBench x = new MakersBench();
        Map<Object, Boolean> first = new IdentityHashMap<>();
        long elements = count(x, first);
        System.out.println("an object holds " + first.size() + " objects, " + elements + " fields and elements");
        DUE.holds("objects", first.size() <= MOST_OBJECTS);
        DUE.holds("fields and elements", elements <= MOST_ELEMENTS);
        use(x);
        Map<Object, Boolean> then = new IdentityHashMap<>();
        is("fields and elements behind its calls", count(x, then), elements);
        DUE.holds("the same objects behind its calls", then.keySet().equals(first.keySet()));
    }

    private static long count(Object o, Map<Object, Boolean> seen) throws Exception {
        if (o == null || seen.put(o, true) != null) {
            return 0;
        }
        long n = 0;
        if (o.getClass().isArray()) {
            n = Array.getLength(o);
            for (int i = 0; i < Array.getLength(o) && !o.getClass().getComponentType().isPrimitive(); i++) {
                n += count(Array.get(o, i), seen);
            }
            return n;
        }
        for (Field f : o.getClass().getDeclaredFields()) {
            if (!Modifier.isStatic(f.getModifiers())) {
                n++;
                f.setAccessible(true);
                n += f.getType().isPrimitive() ? 0 : count(f.get(o), seen);
            }
        }
        return n;
    }

    /** All that can grow, as large as it may be. */
    private static void use(MakersBench x) {
        put(x, 0, "a #2 * #2 * #2 * #2 * #2 * #2 *" + chain("b", 46) + " -");
        for (int place = 1; place < 20; place++) {
            x.breed(place, 0, 0, 0, 0);
        }
        for (int m = 0; m < 8; m++) {
            addMaker(x, 5, 0, 6, 0, 0, 1, 1, 2, 2, 1, 3, 1, 4, 1, 5, 1, 6, 1, 5, 2);
        }
        for (int m = 0; m < 8; m++) {
            x.made(m, m, 10);
            x.never(m);
            x.differ(m, m, 6);
            x.small(m, m, 1);
            x.least(m, 9, 5);
            x.shown(m, 4, 2, 1);
        }
        for (int i = 0; i < 61; i++) {
            x.node(0, i);
        }
    }

    /** Only a field's first value and the class's own constructor make an object. */
    private static void madeInConstructorsAlone() throws Exception {
        DUE.topic("new");
        boolean inConstructor = false;
        for (String line : Files.readAllLines(Path.of("src/main/java/MakersBench.java"))) {
            if (line.startsWith("    public MakersBench() {")) {
                inConstructor = true;
            } else if (line.equals("    }")) {
                inConstructor = false;
            }
            if (line.matches(".*\\bnew\\b.*") && !line.trim().startsWith("*") && !line.trim().startsWith("/")) {
                DUE.holds("in a constructor: " + line.trim(),
                    inConstructor || line.matches(" +private (final )?[A-Z a-z\\[\\]]+ = new .*"));
            }
        }
    }

    // ---- 512 calls

    private static void lastCall() {
        DUE.topic("the 512th call");
        MakersBench nodes = new MakersBench();
        for (int i = 1; i < CALLS; i++) {
            is("call " + i, i % 2 == 1 ? nodes.node(B, 0) : nodes.keep(i / 2 % 20), 1);
        }
        is("keep", nodes.keep(0), 1);
        MakersBench refused = new MakersBench();
        for (int i = 1; i < CALLS; i++) {
            is("call " + i, refused.keep(0), NOT);
        }
        is("node", refused.node(A, 0), 1);
        MakersBench x = withMaker(1, 1);
        put(x, 0, "#0 a #9 + -");
        for (int i = 9; i < CALLS; i++) {
            switch (i % 6) {
                case 0: is("made", x.made(0, 0, 1), 3); break;
                case 1: is("nth", x.nth(1 + i % 19, 15, i), 15); break;
                case 2: is("breed", x.breed(0, 0, 0, 0, 0), 5); break;
                case 3: is("plant", x.plant(0, 0, 1), 1); break;
                case 4: is("differ", x.differ(0, 0, 6), 169); break;
                default: is("cause", x.cause(0, 0, i, i), 0); break;
            }
        }
        is("small", x.small(0, 0, 6), 3);
    }
}
