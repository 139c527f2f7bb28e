import java.io.IOException;
import java.nio.charset.StandardCharsets;
import java.nio.file.Files;
import java.nio.file.Path;
import java.util.ArrayList;
import java.util.HashMap;
import java.util.List;
import java.util.Map;
import java.util.regex.Matcher;
import java.util.regex.Pattern;
import java.util.stream.Stream;

/** What README.md says holds: its example is run as it stands there, the files that it names are there. */
final class ReadmeTests {
    /** A call: what keeps its answer, its name, its arguments, and the answer, if the comment begins with it. */
    private static final Pattern CALL =
            Pattern.compile("(?:int (\\w+) = )?x\\.(\\w+)\\((.*?)\\);(?:\\s*// (?:(-?\\d+|true|false)\\b)?.*)?");
    private static final Pattern NAMED = Pattern.compile("`([./\\w-]+)`");

    private ReadmeTests() {
    }

    static void all() {
        Checks.test("README.md: its example answers as it tells", ReadmeTests::example);
        Checks.test("README.md: the files that it names are there, and no test is left out", ReadmeTests::files);
        Checks.test("README.md: its command can be run", () -> Checks.same(".ci/run",
                block("sh").strip().equals(".ci/run") && Files.isExecutable(Path.of(".ci/run")), true));
    }

    private static String read() {
        try {
            return Files.readString(Path.of("README.md"), StandardCharsets.UTF_8);
        } catch (IOException thrown) {
            throw new IllegalStateException(thrown);
        }
    }

    /** The first block of a kind. */
    private static String block(String kind) {
        String text = read();
        String fence = "```" + kind + "\n";
        int start = text.indexOf(fence) + fence.length();
        return text.substring(start, text.indexOf("```", start));
    }

    private static void example() {
        Map<String, String> kept = new HashMap<>();
        kept.put("LateIndexes.NONE", "NONE");
        StringBuilder script = new StringBuilder();
        for (String line : block("java").split("\n")) {
            if (line.isEmpty() || line.equals("LateIndexes x = new LateIndexes();")) {
                continue;
            }
            Matcher call = CALL.matcher(line);
            if (!call.matches()) {
                throw new IllegalStateException("no call: " + line);
            }
            List<String> arguments = new ArrayList<>();
            for (String one : call.group(3).split(", *")) {
                arguments.add(kept.getOrDefault(one, one));
            }
            if (call.group(1) != null) {
                kept.put(call.group(1), call.group(4));
            }
            script.append(call.group(2)).append('(').append(String.join(", ", arguments)).append(')');
            script.append(call.group(4) == null ? "" : " = " + due(call.group(4))).append('\n');
        }
        Script.run(script.toString());
    }

    private static String due(String told) {
        return told.equals("true") ? "1" : told.equals("false") ? "0" : told;
    }

    private static void files() {
        String text = read();
        Matcher named = NAMED.matcher(text);
        while (named.find()) {
            String name = named.group(1);
            if (name.contains("/")) {
                Checks.same(name + " is there", Files.exists(Path.of(name)), true);
            } else if (name.matches("[A-Z]\\w*")) {
                boolean is = Files.exists(Path.of("src/test/java", name + ".java"));
                Checks.same(name + " is there", is, true);
            }
        }
        try (Stream<Path> all = Files.list(Path.of("src/test/java"))) {
            all.map(p -> p.getFileName().toString().replace(".java", "")).forEach(name ->
                    Checks.same(name + " is told of",
                            text.contains("`" + name + "`") || name.startsWith("EdgesOf"), true));
        } catch (IOException thrown) {
            throw new IllegalStateException(thrown);
        }
    }
}
