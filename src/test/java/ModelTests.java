import java.util.Random;

/** Long runs of calls by drawn arguments, each answer compared with that of Model. */
final class ModelTests {
    private static final String[] WORDS = {"by", "where", "and", "unique", "mends", "a", "b", "c", "d", "e", "ab",
        "+", "*", "<", "=", ">", "1", "15", "99", "100", "0", "07", " ", "\n", "-", "A", "\u00ff", "\u0000"};

    private final Random dice;
    private final LateIndexes x = new LateIndexes();
    private final Model m = new Model();
    private final boolean wild;
    /** What comes more often: 0 nothing, 1 FLUSHES and MERGES of few RUNS, 2 LOADS. */
    private final int mode;

    private ModelTests(long seed) {
        dice = new Random(seed);
        wild = dice.nextInt(4) == 0;
        mode = dice.nextInt(3);
    }

    static void all() {
        Checks.test("promises 2 to 5: drawn texts as the model reads them", () -> {
            for (int seed = 0; seed < 300 && Checks.isRight(); seed++) {
                new ModelTests(seed).texts(seed);
            }
        });
        Checks.test("promises 1 to 36: drawn calls as the model answers them", () -> {
            for (int seed = 0; seed < 400 && Checks.isRight(); seed++) {
                new ModelTests(1000 + seed).calls(seed);
            }
        });
    }

    private void texts(int seed) {
        for (int i = 0; i < 100; i++) {
            String text = dice.nextBoolean() ? drawnWords() : spoiled(validText());
            feed(text);
            same(seed, "define " + text, x.define(), m.define());
            same(seed, "fault(0) " + text, x.fault(0), m.fault(0));
            same(seed, "fault(1) " + text, x.fault(1), m.fault(1));
            for (int index = 0; index < 4; index++) {
                int a = dice.nextInt(16);
                int b = dice.nextInt(16);
                int c = dice.nextInt(16);
                int d = dice.nextInt(16);
                same(seed, "value " + text, x.value(index, a, b, c, d), m.value(index, a, b, c, d));
                same(seed, "unique " + text, x.index(index, 1), m.index(index, 1));
                same(seed, "mends " + text, x.index(index, 2), m.index(index, 2));
            }
            int gone = dice.nextInt(6);
            same(seed, "drop", x.drop(gone), m.drop(gone));
        }
    }

    private void calls(int seed) {
        int calls = 60 + dice.nextInt(450);
        int early = dice.nextInt(4);
        for (int i = 0; i < early; i++) {
            define();
        }
        for (int i = 0; i < calls && Checks.isRight(); i++) {
            call(seed, i);
            if (dice.nextInt(12) == 0) {
                compareAll(seed);
            }
        }
        compareAll(seed);
    }

    private void same(int seed, String call, long got, long due) {
        Checks.same("seed " + seed + ": " + call, got, due);
    }

    private void same(int seed, String call, boolean got, boolean due) {
        Checks.same("seed " + seed + ": " + call, got, due);
    }

    private void feed(String text) {
        int[] w = Tape.words(text);
        for (int i = 0; i < w.length; i += 5) {
            Checks.same("feed " + text, x.feed(w[i], w[i + 1], w[i + 2], w[i + 3], w[i + 4]),
                    m.feed(w[i], w[i + 1], w[i + 2], w[i + 3], w[i + 4]));
        }
        Checks.same("end " + text, x.end(text.length()), m.end(text.length()));
    }

    private void define() {
        feed(dice.nextInt(8) == 0 ? spoiled(validText()) : validText());
        Checks.same("define", x.define(), m.define());
    }

    private String sum(int most) {
        StringBuilder text = new StringBuilder();
        int terms = 1 + dice.nextInt(most);
        for (int i = 0; i < terms; i++) {
            text.append(i > 0 ? "+" : "");
            int kind = dice.nextInt(5);
            if (kind < 2) {
                text.append(dice.nextInt(kind == 0 ? 100 : 16));
            }
            if (kind == 1) {
                text.append(dice.nextBoolean() ? "*" : " * ");
            }
            if (kind > 0) {
                text.append((char) ('a' + dice.nextInt(4)));
            }
        }
        return text.toString();
    }

    private String validText() {
        StringBuilder text = new StringBuilder("by ").append(sum(dice.nextInt(3) == 0 ? 4 : 2));
        int atoms = dice.nextInt(3) == 0 ? dice.nextInt(4) : 0;
        for (int i = 0; i < atoms; i++) {
            text.append(i == 0 ? " where " : " and ").append(sum(2)).append("<=>".charAt(dice.nextInt(3)))
                    .append(sum(2));
        }
        text.append(dice.nextInt(5) == 0 ? " unique" : "").append(dice.nextInt(3) == 0 ? " mends" : "");
        return text.toString();
    }

    private String spoiled(String text) {
        int at = dice.nextInt(text.length() + 1);
        String one = WORDS[dice.nextInt(WORDS.length)];
        switch (dice.nextInt(4)) {
            case 0: return text.substring(0, at);
            case 1: return text.substring(0, at) + one + text.substring(at);
            case 2: return text.substring(0, at) + text.substring(Math.min(text.length(), at + 1));
            default: return text;
        }
    }

    private String drawnWords() {
        StringBuilder text = new StringBuilder("by ");
        int many = dice.nextInt(14);
        for (int i = 0; i < many; i++) {
            text.append(WORDS[dice.nextInt(WORDS.length)]).append(dice.nextInt(3) == 0 ? "" : " ");
        }
        return text.toString();
    }

    /** A number below n, and now and then one that is none. */
    private int near(int n) {
        switch (dice.nextInt(wild ? 12 : 60)) {
            case 0: return n;
            case 1: return -1;
            case 2: return dice.nextInt();
            case 3: return dice.nextBoolean() ? Integer.MAX_VALUE : Integer.MIN_VALUE;
            default: return dice.nextInt(n);
        }
    }

    /** The VALUE of a KEY's ROW by an INDEX, so that more is found than would be by drawn ones. */
    private int valueOf(int index, int key) {
        return m.value(index, m.row(key, 0), m.row(key, 1), m.row(key, 2), m.row(key, 3));
    }

    private int low() {
        return dice.nextInt(10) == 0 ? dice.nextInt() : dice.nextInt(60) - 5;
    }

    private int high() {
        return dice.nextInt(10) == 0 ? dice.nextInt() : dice.nextInt(2) == 0 ? 9999 : dice.nextInt(200);
    }

    private void call(int seed, int n) {
        String told = "call " + n;
        int kind = dice.nextInt(100);
        if (dice.nextInt(3) > 0 && mode == 1) {
            tall(seed, told);
        } else if (dice.nextInt(3) > 0 && mode == 2) {
            int s = dice.nextInt();
            int many = 1 + dice.nextInt(20);
            same(seed, told + " load", x.load(s, many), m.load(s, many));
        } else if (kind < 22) {
            int k = near(32);
            int a = near(16);
            int b = near(16);
            int c = near(16);
            int d = near(16);
            same(seed, told + " put", x.put(k, a, b, c, d), m.put(k, a, b, c, d));
        } else if (kind < 28) {
            int k = near(32);
            int c = near(4);
            int v = near(16);
            same(seed, told + " change", x.change(k, c, v), m.change(k, c, v));
        } else if (kind < 34) {
            int k = near(32);
            same(seed, told + " remove", x.remove(k), m.remove(k));
        } else if (kind < 40) {
            int s = dice.nextInt();
            int many = near(21);
            same(seed, told + " load", x.load(s, many), m.load(s, many));
        } else if (kind < 44) {
            same(seed, told + " flush", x.flush(), m.flush());
        } else if (kind < 48) {
            int i = near(5) - 1;
            int from = dice.nextInt(wild ? 12 : 3);
            int many = near(4) + 1;
            same(seed, told + " would", x.would(i, from, many), m.would(i, from, many));
            same(seed, told + " merge", x.merge(i, from, many), m.merge(i, from, many));
        } else if (kind < 51) {
            int i = near(4);
            same(seed, told + " repair", x.repair(i), m.repair(i));
        } else if (kind < 57) {
            int i = near(4);
            int many = near(33);
            same(seed, told + " build", x.build(i, many), m.build(i, many));
        } else if (kind < 59) {
            int i = near(12);
            same(seed, told + " drop", x.drop(i), m.drop(i));
        } else if (kind < 63) {
            define();
        } else if (kind < 66) {
            int w = near(2);
            int v = dice.nextInt(15);
            same(seed, told + " set", x.set(w, v), m.set(w, v));
        } else if (kind < 68) {
            int i = near(4);
            boolean is = dice.nextBoolean();
            same(seed, told + " mend", x.mend(i, is), m.mend(i, is));
        } else {
            look(seed, told, kind);
        }
    }

    /** Leaves RUNS whose LEVELS are not in order, so that there come to be many. */
    private void tall(int seed, String told) {
        if (m.count(3) < 5 && x.set(1, 4)) {
            m.set(1, 4);
        }
        int k = dice.nextInt(32);
        int a = dice.nextInt(16);
        same(seed, told + " put", x.put(k, a, a, k / 2, 0), m.put(k, a, a, k / 2, 0));
        same(seed, told + " flush", x.flush(), m.flush());
        for (int index = -1; index < 4; index++) {
            boolean isLow = index < 0 ? m.run(0, 1) == 0 && m.run(1, 1) == 0 && m.run(2, 1) == 0
                    : m.index(index, 60) == 0 && m.index(index, 61) == 0 && m.index(index, 62) == 0;
            if (isLow || dice.nextInt(60) == 0) {
                same(seed, told + " merge", x.merge(index, 0, 2), m.merge(index, 0, 2));
            }
        }
    }

    private void look(int seed, String told, int kind) {
        int i = near(4);
        int low = low();
        int high = high();
        if (kind < 76) {
            int k = near(8) - 1;
            same(seed, told + " ask", x.ask(i, low, high, k), m.ask(i, low, high, k));
        } else if (kind < 79) {
            int c = near(4);
            same(seed, told + " sum", x.sum(i, low, high, c), m.sum(i, low, high, c));
        } else if (kind < 81) {
            int v = high();
            same(seed, told + " near", x.near(i, v), m.near(i, v));
        } else if (kind < 83) {
            int j = near(4);
            int k = near(4) - 1;
            int key = dice.nextInt(32);
            int v = dice.nextInt(4) == 0 ? dice.nextInt(20) - 1 : valueOf(i, key);
            int w = dice.nextInt(4) == 0 ? dice.nextInt(20) - 1 : valueOf(j, key);
            same(seed, told + " both", x.both(i, v, j, w, k), m.both(i, v, j, w, k));
        } else if (kind < 86) {
            same(seed, told + " open", x.open(i, low, high), m.open(i, low, high));
        } else if (kind < 90) {
            int c = near(3);
            same(seed, told + " next", x.next(c), m.next(c));
        } else if (kind < 92) {
            int c = near(4);
            same(seed, told + " close", x.close(c), m.close(c));
        } else if (kind < 95) {
            int s = dice.nextInt();
            int many = near(21);
            int w = near(36);
            same(seed, told + " tried", x.tried(s, many, w), m.tried(s, many, w));
        } else if (kind < 98) {
            int k = near(3);
            same(seed, told + " image", x.image(k), m.image(k));
        } else {
            int k = near(3);
            same(seed, told + " again", x.again(k), m.again(k));
        }
    }

    private void compareAll(int seed) {
        for (int what = -2; what < 18; what++) {
            same(seed, "count " + what, x.count(what), m.count(what));
            same(seed, "cost " + what, x.cost(what), m.cost(what));
            same(seed, "fault " + what, x.fault(what), m.fault(what));
            for (int level = -1; level < 4; level++) {
                same(seed, "why " + level + " " + what, x.why(level, what), m.why(level, what));
            }
        }
        for (int key = -1; key < 33; key++) {
            for (int what = -1; what < 6; what++) {
                same(seed, "row " + key + " " + what, x.row(key, what), m.row(key, what));
            }
            same(seed, "held " + key, x.held(key), m.held(key));
        }
        for (int run = -1; run < 22; run++) {
            for (int what = -1; what < 44; what++) {
                same(seed, "run " + run + " " + what, x.run(run, what), m.run(run, what));
            }
        }
        for (int index = -1; index < 5; index++) {
            for (int what = -1; what < 126; what++) {
                same(seed, "index " + index + " " + what, x.index(index, what), m.index(index, what));
            }
            for (int run = -2; run < 23; run++) {
                compareEntries(seed, index, run);
            }
        }
    }

    private void compareEntries(int seed, int index, int run) {
        int many = run < 0 ? 14 : Math.max(0, m.index(index, 20 + run)) + 1;
        for (int i = -1; i < many; i++) {
            for (int what = -1; what < 6; what++) {
                same(seed, "entry " + index + " " + run + " " + i + " " + what, x.entry(index, run, i, what),
                        m.entry(index, run, i, what));
            }
        }
    }
}
