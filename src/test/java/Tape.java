/** Texts on the tape of an object. */
final class Tape {
    private Tape() {
    }

    /** The words that feed() takes for a text, blanks behind it. */
    static int[] words(String text) {
        int[] words = new int[(text.length() + 19) / 20 * 5];
        for (int i = 0; i < words.length * 4; i++) {
            int one = i < text.length() ? text.charAt(i) & 255 : ' ';
            words[i / 4] = words[i / 4] << 8 | one;
        }
        return words;
    }

    /** Puts a text on the empty tape. */
    static void put(LateIndexes x, String text) {
        int[] w = words(text);
        for (int i = 0; i < w.length; i += 5) {
            x.feed(w[i], w[i + 1], w[i + 2], w[i + 3], w[i + 4]);
        }
        x.end(text.length());
    }

    static int define(LateIndexes x, String text) {
        put(x, text);
        return x.define();
    }
}
