import java.lang.reflect.Constructor;
import java.lang.reflect.Field;
import java.lang.reflect.Method;
import java.lang.reflect.Modifier;
import java.nio.file.Files;
import java.nio.file.Path;
import java.util.List;
import java.util.Set;
import java.util.TreeSet;
import java.util.regex.Matcher;
import java.util.regex.Pattern;

/** The public face of the document, and what of LANGUAGE.md can be seen in the class and in its text. */
public final class FaceTest {
    private static final String[] FACE = {
        "long many(int)", "int nth(int,int,long)", "long number(int)", "int node(int,int)", "int keep(int)",
        "int drop(int)", "int read(int,int,int)", "int value(int,int,int)", "int safe(int,int)",
        "int breed(int,int,int,int,int)", "int maker()", "int turn(int,int,int)", "int plant(int,int,int)",
        "int made(int,int,int)", "int part(int,int)", "int answer(int,int,int,int)", "int cost(int,int,int,int)",
        "int fires(int,int,int)", "int never(int)", "int differ(int,int,int)", "int first(int,int,int)",
        "int cause(int,int,int,int)", "int small(int,int,int)", "int steps()", "long least(int,int,int)",
        "int shown(int,int,int,int)", "int count(int)", "int ofMaker(int,int)"};
    private static final String[] FORBIDDEN = {
        "throw", "throws", "try", "catch", "synchronized", "assert", "import", "package", "protected", "native",
        "volatile", "transient", "instanceof", "double", "float", "Object", "hashCode", "toString", "equals", "Exact",
        "while", "do", "var", "yield", "Thread", "System\\.(?!arraycopy)", "->", "::", "@"};
    private static final Due DUE = new Due();

    public static void main(String[] args) throws Exception {
        face();
        members();
        text(Files.readString(Path.of("src/main/java/MakersBench.java")));
        DUE.end();
    }

    private static void face() {
        DUE.topic("face");
        DUE.holds("public and final", Modifier.isPublic(MakersBench.class.getModifiers())
            && Modifier.isFinal(MakersBench.class.getModifiers()));
        Set<String> got = new TreeSet<>();
        for (Method m : MakersBench.class.getDeclaredMethods()) {
            if (!Modifier.isPrivate(m.getModifiers()) && !m.isSynthetic()) {
                DUE.holds(m.getName() + " is public", Modifier.isPublic(m.getModifiers()));
                got.add(signature(m));
            }
        }
        Set<String> want = new TreeSet<>(List.of(FACE));
        DUE.is("methods", got.size(), want.size());
        DUE.holds("the methods of the document: " + got, got.equals(want));
        Constructor<?>[] constructors = MakersBench.class.getDeclaredConstructors();
        DUE.is("constructors", constructors.length, 1);
        DUE.is("its parameters", constructors[0].getParameterCount(), 0);
        Set<String> fields = new TreeSet<>();
        for (Field f : MakersBench.class.getDeclaredFields()) {
            if (!Modifier.isPrivate(f.getModifiers())) {
                fields.add(f.getName());
            }
        }
        DUE.holds("the constants of the document: " + fields, fields.equals(Set.of("BAD", "NOT", "FULL", "VOID")));
    }

    private static String signature(Method m) {
        StringBuilder out = new StringBuilder(m.getReturnType().getName() + " " + m.getName() + "(");
        for (Class<?> p : m.getParameterTypes()) {
            out.append(out.charAt(out.length() - 1) == '(' ? "" : ",").append(p.getName());
        }
        return out.append(")").toString();
    }

    private static void members() {
        DUE.topic("members");
        Set<String> names = new TreeSet<>();
        for (Method m : MakersBench.class.getMethods()) {
            names.add(m.getName());
        }
        DUE.holds("at most twelve classes", MakersBench.class.getDeclaredClasses().length <= 11);
        membersOf(MakersBench.class, names);
        for (Class<?> c : MakersBench.class.getDeclaredClasses()) {
            DUE.holds(c + " is static", Modifier.isStatic(c.getModifiers()));
            DUE.holds(c + " is not public", !Modifier.isPublic(c.getModifiers()));
            membersOf(c, names);
        }
    }

    private static void membersOf(Class<?> c, Set<String> names) {
        int own = 0;
        for (Field f : c.getDeclaredFields()) {
            if (Modifier.isStatic(f.getModifiers())) {
                DUE.holds(f + " is final", Modifier.isFinal(f.getModifiers()));
            } else {
                own++;
            }
        }
        DUE.holds("fields of " + c, own <= 20);
        for (Method m : c.getDeclaredMethods()) {
            DUE.holds("parameters of " + m, m.getParameterCount() <= 7);
            if (!Modifier.isPublic(m.getModifiers())) {
                DUE.holds(m + " bears no name of the face", !names.contains(m.getName()));
            }
        }
    }

    private static void text(String source) {
        DUE.topic("text");
        String code = source.replaceAll("(?s)/\\*.*?\\*/", "").replaceAll("//[^\n]*", "");
        for (String word : FORBIDDEN) {
            String pattern = Character.isLetter(word.charAt(0)) && !word.equals("Exact") ? "\\b" + word
                + (word.endsWith(")") ? "" : "\\b") : word;
            DUE.holds("without " + word, !Pattern.compile(pattern).matcher(code).find());
        }
        int start = 0;
        String name = "";
        String[] lines = source.split("\n");
        Pattern head = Pattern.compile("^( {4}| {8})(?:public |private |static )*[\\w\\[\\]]+ ?(\\w*)\\([^;]*\\) \\{$");
        String indent = "none";
        for (int i = 0; i < lines.length; i++) {
            DUE.holds("line " + (i + 1) + " is of plain signs", lines[i].chars().allMatch(c -> c >= 32 && c < 127));
            Matcher m = head.matcher(lines[i]);
            if (m.matches() && indent.equals("none")) {
                indent = m.group(1);
                name = lines[i].trim();
                start = i;
            } else if (lines[i].equals(indent + "}")) {
                DUE.holds(name + " has at most sixty lines", i - start < 60);
                indent = "none";
            }
        }
    }
}
