import java.io.IOException;
import java.lang.management.ManagementFactory;
import java.lang.reflect.Constructor;
import java.lang.reflect.Field;
import java.lang.reflect.Method;
import java.lang.reflect.Modifier;
import java.nio.charset.StandardCharsets;
import java.nio.file.Files;
import java.nio.file.Path;
import java.util.Arrays;
import java.util.Set;
import java.util.TreeSet;

/** The face of the class, what of LANGUAGE.md can be seen from here, and the room that calls take. */
final class RuleTests {
    private static final String[] FACE = {
        "int feed(int, int, int, int, int)", "int end(int)", "int define()", "int fault(int)",
        "boolean set(int, int)", "boolean mend(int, boolean)", "int put(int, int, int, int, int)",
        "int change(int, int, int)", "int remove(int)", "int load(int, int)", "boolean flush()",
        "int merge(int, int, int)", "int repair(int)", "int build(int, int)", "boolean drop(int)",
        "int row(int, int)", "int ask(int, int, int, int)", "int cost(int)",
        "int both(int, int, int, int, int)", "int sum(int, int, int, int)", "int near(int, int)",
        "int open(int, int, int)", "int next(int)", "int close(int)", "int count(int)", "int run(int, int)",
        "int index(int, int)", "int entry(int, int, int, int)", "int value(int, int, int, int, int)",
        "int why(int, int)", "int would(int, int, int)", "int held(int)", "int tried(int, int, int)",
        "boolean image(int)", "boolean again(int)"};

    private RuleTests() {
    }

    static void all() {
        Checks.test("the face is the document's, and nothing else", RuleTests::face);
        Checks.test("LANGUAGE.md 1, 5, 11: members, fields, parameters", RuleTests::members);
        Checks.test("LANGUAGE.md 2, 4, 6, 11: words, lines of methods", RuleTests::words);
        Checks.test("calls make next to nothing", RuleTests::room);
    }

    private static String told(Method m) {
        StringBuilder text = new StringBuilder();
        text.append(m.getReturnType().getSimpleName()).append(' ').append(m.getName()).append('(');
        for (int i = 0; i < m.getParameterCount(); i++) {
            text.append(i > 0 ? ", " : "").append(m.getParameterTypes()[i].getSimpleName());
        }
        return text.append(')').toString();
    }

    private static void face() {
        Set<String> due = new TreeSet<>(Arrays.asList(FACE));
        Set<String> got = new TreeSet<>();
        Set<String> names = new TreeSet<>();
        for (Method m : LateIndexes.class.getDeclaredMethods()) {
            if (Modifier.isPublic(m.getModifiers())) {
                got.add(told(m));
                names.add(m.getName());
            }
        }
        Checks.same("the methods of the face", got.equals(due), true);
        for (Method m : LateIndexes.class.getDeclaredMethods()) {
            boolean isPrivate = Modifier.isPrivate(m.getModifiers());
            Checks.same(m + " is private", isPrivate || due.contains(told(m)), true);
            Checks.same(m + " bears a name of the face", isPrivate && names.contains(m.getName()), false);
        }
        for (Field f : LateIndexes.class.getDeclaredFields()) {
            boolean is = f.getName().equals("NONE") ? Modifier.isPublic(f.getModifiers())
                    : Modifier.isPrivate(f.getModifiers());
            Checks.same(f + " is as it should be", is, true);
        }
        Constructor<?>[] constructors = LateIndexes.class.getDeclaredConstructors();
        Checks.same("constructors", constructors.length, 1);
        Checks.same("its parameters", constructors[0].getParameterCount(), 0);
        Checks.same("final", Modifier.isFinal(LateIndexes.class.getModifiers()), true);
    }

    private static void members() {
        Class<?>[] inside = LateIndexes.class.getDeclaredClasses();
        Checks.same("classes", inside.length <= 12, true);
        for (Class<?> c : inside) {
            Checks.same(c + " is static", Modifier.isStatic(c.getModifiers()), true);
            Checks.same(c + " is not public", Modifier.isPublic(c.getModifiers()), false);
            int fields = 0;
            for (Field f : c.getDeclaredFields()) {
                fields += Modifier.isStatic(f.getModifiers()) ? 0 : 1;
                Checks.same(f + " is no static state",
                        Modifier.isStatic(f.getModifiers()) && !Modifier.isFinal(f.getModifiers()), false);
            }
            Checks.same("fields of " + c, fields <= 20, true);
            for (Method m : c.getDeclaredMethods()) {
                Checks.same("parameters of " + m, m.getParameterCount() <= 7, true);
                boolean bears = Arrays.stream(FACE).anyMatch(f -> f.contains(" " + m.getName() + "("));
                Checks.same(m + " bears a name of the face", bears, false);
            }
        }
    }

    private static void words() {
        String text;
        try {
            text = Files.readString(Path.of("src/main/java/LateIndexes.java"), StandardCharsets.UTF_8);
        } catch (IOException thrown) {
            throw new IllegalStateException(thrown);
        }
        String code = text.replaceAll("(?s)/\\*.*?\\*/", "").replaceAll("//[^\n]*", "");
        for (String word : new String[] {"import", "package", "throw", "try", "catch", "assert", "synchronized",
            "[a-z]+Exact", "->", "::", "hashCode", "toString", "Random", "System.out", "currentTimeMillis"}) {
            Checks.same(word, code.matches("(?s).*(?<![a-zA-Z])" + word + "(?![a-zA-Z]).*"), false);
        }
        String[] lines = text.split("\n");
        for (int i = 0; i < lines.length; i++) {
            Checks.same("line " + (i + 1) + " is not too long", lines[i].length() <= 120, true);
            if (lines[i].matches("( {4}| {8})[a-zA-Z].*\\) \\{")) {
                String indent = lines[i].startsWith("        ") ? "        }" : "    }";
                int end = Arrays.asList(lines).subList(i, lines.length).indexOf(indent);
                Checks.same("lines of the method at " + (i + 1), end > 0 && end < 60, true);
            }
        }
    }

    private static long made() {
        com.sun.management.ThreadMXBean bean = (com.sun.management.ThreadMXBean) ManagementFactory.getThreadMXBean();
        return bean.getThreadAllocatedBytes(Thread.currentThread().getId());
    }

    private static void room() {
        long before = made();
        LateIndexes x = new LateIndexes();
        for (int i = 0; i < 3; i++) {
            x.set(0, 2);
            Tape.define(x, "by a+b mends");
        }
        for (int i = 0; i < 500; i++) {
            x.tried(i, 20, 13);
            x.load(i, 20);
            x.ask(0, 0, 99, 0);
            x.image(i % 3);
            x.would(0, 0, 2);
            x.merge(1, 0, 2);
            x.again(i % 2);
            x.count(8);
        }
        long bytes = made() - before;
        // One element or field is 8 bytes at most; five objects' worth of state is some 25,000 of them.
        Checks.same("bytes that 4000 calls made (" + bytes + ") are few", bytes < 400000, true);
    }
}
