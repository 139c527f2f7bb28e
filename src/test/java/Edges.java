import java.io.IOException;
import java.nio.charset.StandardCharsets;
import java.nio.file.Files;
import java.nio.file.Path;
import java.util.ArrayList;
import java.util.List;

/**
 * The document sentence by sentence: each test quotes the sentence that it holds to, and names its promise.
 * What is quoted must stand in DOC.md, and no sentence of DOC.md may be left unquoted.
 */
final class Edges {
    private static final int PROMISES = 36;
    private static final List<String> QUOTES = new ArrayList<>();
    private static final List<Integer> PLACES = new ArrayList<>();
    private static String document = "";

    private Edges() {
    }

    static void all() {
        document = read();
        EdgesOfTexts.all();
        EdgesOfWrites.all();
        EdgesOfRuns.all();
        EdgesOfIndexes.all();
        EdgesOfAsked.all();
        EdgesOfTold.all();
        EdgesOfImages.all();
        Checks.test("each sentence of the document has a test that quotes it", Edges::isWhole);
    }

    private static String read() {
        try {
            String text = Files.readString(Path.of("../shared/DOC.md"), StandardCharsets.UTF_8);
            return text.replace("```text", " ").replace("```", " ").replaceAll("\\s+", " ");
        } catch (IOException thrown) {
            throw new IllegalStateException(thrown);
        }
    }

    /** A test of a sentence that stands under the heading of a promise. */
    static void promise(int number, String sentence, String calls) {
        quote("promise " + number, "## Promise " + number + ":", sentence, calls);
    }

    /** A test of a sentence that stands ahead of all headings of promises. */
    static void opening(int promise, String sentence, String calls) {
        quote("promise " + promise + " (What it is)", "## What it is", sentence, calls);
    }

    /** A test of a sentence that stands under Terms, by what a promise has of it. */
    static void terms(int number, int promise, String sentence, String calls) {
        String told = "promise " + promise + " (Terms, " + number + ")";
        quote(told, "## Terms", sentence, calls);
    }

    private static void quote(String told, String heading, String sentence, String calls) {
        Checks.test(told + ": \"" + sentence + "\"", () -> {
            int start = document.indexOf(heading);
            int end = document.indexOf("## Promise", start + heading.length());
            int from = document.indexOf(sentence, start);
            boolean stands = start >= 0 && from >= 0 && (end < 0 || from < end);
            Checks.same("the sentence stands in DOC.md", stands, true);
            QUOTES.add(sentence);
            PLACES.add(from);
            Script.run(calls);
        });
    }

    private static void isWhole() {
        boolean[] quoted = new boolean[document.length()];
        for (int i = 0; i < QUOTES.size(); i++) {
            for (int at = Math.max(0, PLACES.get(i)); at < PLACES.get(i) + QUOTES.get(i).length(); at++) {
                quoted[at] = true;
            }
        }
        int terms = document.indexOf("## Terms");
        int promises = document.indexOf("The constants:");
        isQuoted(quoted, terms + 8, promises);
        for (int number = 1; number <= PROMISES; number++) {
            int start = document.indexOf("`: ", document.indexOf("## Promise " + number + ":")) + 3;
            int end = document.indexOf("## ", start);
            isQuoted(quoted, start, end);
        }
    }

    /** Numbers of lists, blanks and signs alone need no quote. */
    private static void isQuoted(boolean[] quoted, int start, int end) {
        for (int at = start; at < end; at++) {
            int from = at;
            while (at < end && !quoted[at]) {
                at++;
            }
            String left = document.substring(from, at).replaceAll("[^a-zA-Z0-9]", "");
            if (left.length() > 1) {
                Checks.same("not quoted: " + document.substring(from, at), 1, 0);
            }
        }
    }
}
