import java.io.IOException;
import java.lang.reflect.Method;
import java.nio.file.Files;
import java.nio.file.Path;
import java.util.List;
import java.util.Set;
import java.util.TreeSet;
import java.util.regex.Matcher;
import java.util.regex.Pattern;
import java.util.stream.Collectors;
import java.util.stream.Stream;

/** What README.md shows of the class is what the class answers, and the tests it names are those there are. */
public final class ReadmeTest {
    private static final Path TESTS = Path.of("src/test/java");
    private static final Path SHARED_TESTS = Path.of("../shared/tests");
    private static final Pattern CALL = Pattern.compile("bench\\.(\\w+)\\(([-\\d, ]*)\\); +// (-?\\d+)(?:[: ].*)?");
    private static final Due DUE = new Due();

    public static void main(String[] args) throws Exception {
        List<String> lines = Files.readAllLines(Path.of("README.md"));
        calls(shown(lines));
        constants(String.join("\n", lines));
        tests(String.join("\n", lines));
        DUE.end();
    }

    /** The lines of the page's Java. */
    private static List<String> shown(List<String> lines) {
        int start = lines.indexOf("```java");
        int end = lines.lastIndexOf("```");
        DUE.holds("there is Java on the page", start >= 0 && end > start);
        return lines.subList(start + 1, Math.max(end, start + 1));
    }

    /** Each line is a call with its answer; nothing else stands there but the first line and remarks. */
    private static void calls(List<String> shown) throws Exception {
        DUE.topic("calls");
        DUE.holds("a new object first", shown.get(0).equals("MakersBench bench = new MakersBench();"));
        MakersBench bench = new MakersBench();
        Set<String> called = new TreeSet<>();
        for (String line : shown.subList(1, shown.size())) {
            Matcher m = CALL.matcher(line);
            if (m.matches()) {
                DUE.is(line, answer(bench, m.group(1), m.group(2)), Long.parseLong(m.group(3)));
                called.add(m.group(1));
            } else {
                DUE.holds("a call, or a remark: " + line, line.isEmpty() || line.startsWith("// "));
            }
        }
        for (Method m : MakersBench.class.getDeclaredMethods()) {
            if (java.lang.reflect.Modifier.isPublic(m.getModifiers())) {
                DUE.holds(m.getName() + " is shown", called.contains(m.getName()));
            }
        }
    }

    private static long answer(MakersBench bench, String name, String list) throws Exception {
        String[] words = list.isEmpty() ? new String[0] : list.split(", ");
        for (Method m : MakersBench.class.getDeclaredMethods()) {
            if (m.getName().equals(name) && m.getParameterCount() == words.length) {
                Object[] arguments = new Object[words.length];
                for (int i = 0; i < words.length; i++) {
                    boolean isLong = m.getParameterTypes()[i] == long.class;
                    arguments[i] = isLong ? (Object) Long.valueOf(words[i]) : (Object) Integer.valueOf(words[i]);
                }
                return ((Number) m.invoke(bench, arguments)).longValue();
            }
        }
        DUE.holds("there is a call " + name + " of " + words.length, false);
        return Long.MIN_VALUE;
    }

    private static void constants(String page) throws Exception {
        DUE.topic("constants");
        for (String name : List.of("BAD", "NOT", "FULL", "VOID")) {
            long value = MakersBench.class.getField(name).getInt(null);
            DUE.holds(name, page.contains("`" + name + "` = " + value));
        }
    }

    /** .ci/run takes the files with names that end so: none with a main method may have another, or lie deeper. */
    private static void tests(String page) throws IOException {
        DUE.topic("tests");
        DUE.holds("the page names .ci/run", page.contains("\n    .ci/run\n"));
        DUE.holds(".ci/run is there", Files.isRegularFile(Path.of(".ci/run")));
        DUE.holds("the page names ../shared/tests", page.contains("`" + SHARED_TESTS + "`"));
        Set<String> there = new TreeSet<>();
        for (Path file : filesUnder(TESTS)) {
            boolean runs = Files.readString(file).contains("static void main(String[] ");
            DUE.holds(file + " is a test by its name", runs == file.toString().endsWith("Test.java"));
            DUE.holds(file + " lies where tests are looked for", file.getParent().equals(TESTS));
            there.add(file.getFileName().toString().replace(".java", ""));
        }
        Set<String> named = new TreeSet<>();
        Matcher m = Pattern.compile("(?m)^- `(\\w+Test)`: ").matcher(page);
        while (m.find()) {
            named.add(m.group(1));
        }
        for (String name : there) {
            DUE.holds(name + " is on the page", page.contains("`" + name + "`"));
        }
        DUE.holds("what is on the page is there: " + named, !named.isEmpty() && there.containsAll(named));
    }

    private static List<Path> filesUnder(Path directory) throws IOException {
        try (Stream<Path> all = Files.walk(directory)) {
            return all.filter(file -> file.toString().endsWith(".java")).sorted().collect(Collectors.toList());
        }
    }
}
