/** Promises 8 to 11, 17 and 31: WRITES, what they leave, what is REFUSED and why. */
final class WriteTests {
    private WriteTests() {
    }

    static void all() {
        Checks.test("promise 8: put", WriteTests::put);
        Checks.test("promise 8: put of what is none is not counted", WriteTests::putNone);
        Checks.test("promise 8: put REFUSED by what is UNIQUE", WriteTests::putRefused);
        Checks.test("promise 8: nothing happens by what is REFUSED", WriteTests::nothingHappens);
        Checks.test("promise 8: a BUILDING INDEX refuses nothing", WriteTests::buildingRefusesNothing);
        Checks.test("promise 8: a put leaves ENTRIES where they are", WriteTests::putLeaves);
        Checks.test("promise 9: change", WriteTests::change);
        Checks.test("promise 9: change REFUSED", WriteTests::changeRefused);
        Checks.test("promise 10: remove", WriteTests::remove);
        Checks.test("promise 11: load draws as told", WriteTests::load);
        Checks.test("promise 11: load, how many were REFUSED", WriteTests::loadRefused);
        Checks.test("promise 17: row, in MEMORY and in RUNS", WriteTests::row);
        Checks.test("promise 31: why, the first such INDEX", WriteTests::why);
        Checks.test("promise 31: why of a change without a ROW", WriteTests::whyWithoutRow);
        Checks.test("promise 31: why of a load", WriteTests::whyOfLoad);
        Checks.test("more than 96 ENTRIES behind a WRITE", WriteTests::tooManyEntries);
    }

    private static void put() {
        LateIndexes x = new LateIndexes();
        Checks.same("put", x.put(0, 0, 0, 0, 0), 1);
        Checks.same("put", x.put(31, 15, 15, 15, 15), 2);
        Checks.same("put of the same KEY", x.put(31, 1, 2, 3, 4), 3);
        Checks.same("VERSIONS in MEMORY", x.count(2), 2);
        Checks.same("WRITES", x.count(1), 3);
        Checks.same("STAMP", x.count(0), 3);
        Checks.same("KEYS that ARE THERE", x.count(5), 2);
        Checks.same("put that flushes", x.put(5, 0, 0, 0, 0), 4);
        Checks.same("VERSIONS in MEMORY", x.count(2), 0);
        Checks.same("WRITES", x.count(1), 0);
        Checks.same("VERSIONS in RUNS", x.count(4), 3);
        Checks.same("FROM", x.run(0, 2), 1);
        Checks.same("TO", x.run(0, 3), 4);
    }

    private static void putNone() {
        LateIndexes x = new LateIndexes();
        int[] none = {-1, 16, Integer.MAX_VALUE, Integer.MIN_VALUE};
        for (int n : none) {
            Checks.same("KEY", x.put(n == 16 ? 32 : n, 0, 0, 0, 0), -1);
            Checks.same("a", x.put(0, n, 0, 0, 0), -1);
            Checks.same("b", x.put(0, 0, n, 0, 0), -1);
            Checks.same("c", x.put(0, 0, 0, n, 0), -1);
            Checks.same("d", x.put(0, 0, 0, 0, n), -1);
        }
        Checks.same("STAMP", x.count(0), 0);
        Checks.same("REFUSED", x.count(11), 0);
        Checks.same("why", x.why(0, 0), -1);
    }

    private static void putRefused() {
        LateIndexes x = new LateIndexes();
        Tape.define(x, "by a where b<5 unique");
        x.put(3, 7, 0, 0, 0);
        Checks.same("another KEY of the VALUE", x.put(4, 7, 0, 0, 0), -1);
        Checks.same("REFUSED", x.count(11), 1);
        Checks.same("the same KEY", x.put(3, 7, 1, 0, 0), 2);
        Checks.same("another VALUE", x.put(4, 8, 0, 0, 0), 3);
        Checks.same("one that is not WANTED", x.put(5, 7, 5, 0, 0), 4);
        Checks.same("which the other one isn't", x.put(5, 6, 4, 0, 0), 5);
        x.put(3, 7, 9, 0, 0);
        Checks.same("the other KEY is WANTED no more", x.put(4, 7, 0, 0, 0), 7);
        x.remove(4);
        Checks.same("the other KEY is GONE", x.put(9, 7, 0, 0, 0), 9);
        x.flush();
        Checks.same("the other KEY is in a RUN", x.put(10, 7, 0, 0, 0), -1);
        Checks.same("REFUSED", x.count(11), 2);
        x.drop(0);
        Checks.same("the INDEX is no more", x.put(10, 7, 0, 0, 0), 10);
    }

    private static void nothingHappens() {
        LateIndexes x = new LateIndexes();
        Tape.define(x, "by b");
        Tape.define(x, "by a unique");
        x.put(3, 7, 0, 0, 0);
        x.put(4, 8, 0, 0, 0);
        x.put(5, 9, 0, 0, 0);
        x.set(0, 2);
        Checks.same("put", x.put(4, 7, 0, 0, 0), -1);
        Checks.same("STAMP", x.count(0), 3);
        Checks.same("WRITES", x.count(1), 3);
        Checks.same("RUNS", x.count(3), 0);
        Checks.same("ENTRIES", x.index(0, 4), 3);
        Checks.same("row", x.row(4, 0), 8);
        Checks.same("put", x.put(6, 1, 0, 0, 0), 4);
    }

    private static void buildingRefusesNothing() {
        LateIndexes x = new LateIndexes();
        x.put(3, 7, 0, 0, 0);
        Tape.define(x, "by a unique");
        Checks.same("put", x.put(4, 7, 0, 0, 0), 2);
        x.put(4, 8, 0, 0, 0);
        x.build(0, 32);
        Checks.same("put, the INDEX being BUILT", x.put(4, 7, 0, 0, 0), -1);
    }

    private static void putLeaves() {
        LateIndexes x = new LateIndexes();
        Tape.define(x, "by a where b=0");
        x.put(3, 7, 0, 0, 0);
        x.put(3, 2, 0, 0, 0);
        x.put(3, 1, 1, 0, 0);
        Checks.same("ENTRIES", x.index(0, 4), 2);
        Checks.same("VALUE", x.entry(0, -1, 0, 0), 2);
        Checks.same("STAMP", x.entry(0, -1, 0, 2), 2);
        Checks.same("VALUE", x.entry(0, -1, 1, 0), 7);
        Checks.same("STALE", x.index(0, 5), 2);
        x.flush();
        Checks.same("RUNS: all were older", x.index(0, 3), 0);
        Checks.same("RUNS of the TABLE", x.count(3), 1);
    }

    private static void change() {
        LateIndexes x = new LateIndexes();
        x.put(3, 1, 2, 3, 4);
        for (int column = 0; column < 4; column++) {
            Checks.same("change", x.change(3, column, 15 - column), 2 + column);
        }
        for (int column = 0; column < 4; column++) {
            Checks.same("row", x.row(3, column), 15 - column);
        }
        Checks.same("change to the same", x.change(3, 0, 15), 6);
        Checks.same("STAMP", x.row(3, 4), 6);
        Checks.same("change to 0", x.change(3, 1, 0), 7);
        Checks.same("row", x.row(3, 0), 15);
        Checks.same("row", x.row(3, 1), 0);
        Checks.same("row", x.row(3, 2), 13);
        Checks.same("no such KEY", x.change(32, 0, 0), -1);
        Checks.same("no such KEY", x.change(-1, 0, 0), -1);
        Checks.same("no such COLUMN", x.change(3, 4, 0), -1);
        Checks.same("no such COLUMN", x.change(3, -1, 0), -1);
        Checks.same("no such number", x.change(3, 0, 16), -1);
        Checks.same("no such number", x.change(3, 0, -1), -1);
        Checks.same("none such, of a KEY that isn't THERE", x.change(9, 0, 16), -1);
        Checks.same("REFUSED", x.count(11), 0);
    }

    private static void changeRefused() {
        LateIndexes x = new LateIndexes();
        Tape.define(x, "by a+b unique");
        Checks.same("no ROW", x.change(3, 0, 0), -1);
        Checks.same("REFUSED", x.count(11), 1);
        x.put(3, 1, 1, 0, 0);
        x.put(4, 1, 2, 0, 0);
        Checks.same("of the VALUE of another", x.change(4, 1, 1), -1);
        Checks.same("REFUSED", x.count(11), 2);
        Checks.same("which", x.why(0, 0), 1);
        Checks.same("KEY", x.why(0, 1), 4);
        Checks.same("INDEX", x.why(1, 0), 0);
        Checks.same("VALUE", x.why(1, 1), 2);
        Checks.same("the other KEY", x.why(2, 0), 3);
        Checks.same("its STAMP", x.why(2, 1), 1);
        x.remove(3);
        Checks.same("GONE", x.change(3, 0, 0), -1);
        Checks.same("REFUSED", x.count(11), 3);
        Checks.same("change", x.change(4, 1, 1), 4);
    }

    private static void remove() {
        LateIndexes x = new LateIndexes();
        Tape.define(x, "by a");
        Checks.same("remove, nothing being there", x.remove(0), 1);
        x.put(31, 1, 1, 1, 1);
        Checks.same("remove", x.remove(31), 3);
        Checks.same("again", x.remove(31), 4);
        Checks.same("KEYS that ARE THERE", x.count(5), 0);
        Checks.same("GONE in RUNS", x.count(6), 2);
        Checks.same("ENTRIES", x.index(0, 4), 0);
        Checks.same("no such KEY", x.remove(32), -1);
        Checks.same("no such KEY", x.remove(-1), -1);
        Checks.same("no such KEY", x.remove(Integer.MIN_VALUE), -1);
        Checks.same("STAMP", x.count(0), 4);
    }

    /** What LOAD is told to draw, by a way of its own. */
    private static int draw(long[] x, int n) {
        x[0] = (x[0] * 1103515245L + 12345L) % 4294967296L;
        return (int) (x[0] / 65536 % n);
    }

    private static void load() {
        LateIndexes x = new LateIndexes();
        LateIndexes y = new LateIndexes();
        int[] kinds = new int[3];
        for (int seed = 1; seed < 40; seed++) {
            int n = 1 + seed % 20;
            long[] at = {seed * 100000007L % 4294967296L};
            int refused = 0;
            int given = (int) at[0];
            for (int i = 0; i < n; i++) {
                int which = draw(at, 8);
                int key = draw(at, 32);
                kinds[Math.min(which, 2)]++;
                if (which == 0) {
                    y.remove(key);
                } else if (which == 1) {
                    int column = draw(at, 4);
                    refused += y.change(key, column, draw(at, 16)) < 0 ? 1 : 0;
                } else {
                    int a = draw(at, 16);
                    int b = draw(at, 16);
                    int c = draw(at, 16);
                    y.put(key, a, b, c, draw(at, 16));
                }
            }
            Checks.same("load", x.load(given, n), refused);
            for (int key = 0; key < 32; key++) {
                for (int what = 0; what < 5; what++) {
                    Checks.same("row", x.row(key, what), y.row(key, what));
                }
            }
            Checks.same("REFUSED", x.count(11), y.count(11));
            Checks.same("RUNS", x.count(3), y.count(3));
        }
        Checks.same("all kinds were drawn", kinds[0] > 0 && kinds[1] > 0 && kinds[2] > 0, true);
        int stamp = x.count(0);
        int[] none = {0, -1, 21, Integer.MIN_VALUE, Integer.MAX_VALUE};
        for (int n : none) {
            Checks.same("load of " + n, x.load(1, n), -1);
        }
        Checks.same("STAMP", x.count(0), stamp);
        int before = x.count(11);
        int answer = x.load(5, 20);
        Checks.same("20 WRITES, REFUSED or not", x.count(0) - stamp + answer, 20);
        Checks.same("REFUSED", x.count(11) - before, answer);
    }

    private static void loadRefused() {
        LateIndexes x = new LateIndexes();
        Tape.define(x, "by 3 unique");
        int refused = x.load(12345, 20);
        Checks.same("KEYS that ARE THERE, one at most", x.count(5) <= 1, true);
        Checks.same("REFUSED", x.count(11), refused);
        Checks.same("STAMP", x.count(0), 20 - refused);
        Checks.same("many were", refused > 8, true);
    }

    private static void row() {
        LateIndexes x = new LateIndexes();
        x.put(6, 9, 8, 7, 6);
        x.flush();
        x.put(6, 1, 2, 3, 4);
        Checks.same("of MEMORY", x.row(6, 0), 1);
        Checks.same("b", x.row(6, 1), 2);
        Checks.same("c", x.row(6, 2), 3);
        Checks.same("d", x.row(6, 3), 4);
        Checks.same("STAMP", x.row(6, 4), 2);
        Checks.same("another what", x.row(6, 5), -1);
        Checks.same("another what", x.row(6, -1), -1);
        x.set(1, 4);
        x.flush();
        Checks.same("of the newest RUN", x.row(6, 3), 4);
        x.remove(6);
        Checks.same("GONE", x.row(6, 0), -1);
        Checks.same("STAMP of GONE", x.row(6, 4), 3);
        x.flush();
        x.merge(-1, 0, 3);
        Checks.same("STAMP of none", x.row(6, 4), -1);
        Checks.same("no such KEY", x.row(32, 4), -1);
        Checks.same("no such KEY", x.row(-1, 4), -1);
        Checks.same("a KEY without a VERSION", x.row(7, 4), -1);
    }

    private static void why() {
        LateIndexes x = new LateIndexes();
        Tape.define(x, "by a");
        Tape.define(x, "by a unique");
        Tape.define(x, "by 10+b unique");
        x.put(8, 1, 1, 0, 0);
        x.put(7, 2, 2, 0, 0);
        x.put(9, 1, 2, 0, 0);
        Checks.same("which", x.why(0, 0), 0);
        Checks.same("KEY", x.why(0, 1), 9);
        Checks.same("the first INDEX", x.why(1, 0), 1);
        Checks.same("VALUE", x.why(1, 1), 1);
        Checks.same("the other KEY", x.why(2, 0), 8);
        Checks.same("its STAMP", x.why(2, 1), 1);
        x.put(9, 3, 2, 0, 0);
        Checks.same("INDEX", x.why(1, 0), 2);
        Checks.same("VALUE", x.why(1, 1), 12);
        Checks.same("the other KEY", x.why(2, 0), 7);
        Checks.same("its STAMP", x.why(2, 1), 2);
        x.put(9, 3, 3, 0, 0);
        Checks.same("what is not REFUSED changes nothing", x.why(1, 1), 12);
        int[][] none = {{-1, 0}, {3, 0}, {0, 2}, {0, -1}, {2, 2}, {Integer.MAX_VALUE, 0}, {0, Integer.MIN_VALUE}};
        for (int[] n : none) {
            Checks.same("why", x.why(n[0], n[1]), -1);
        }
    }

    private static void whyWithoutRow() {
        LateIndexes x = new LateIndexes();
        Tape.define(x, "by 0 unique");
        x.put(8, 1, 1, 0, 0);
        x.put(9, 1, 1, 0, 0);
        Checks.same("INDEX", x.why(1, 0), 0);
        x.change(31, 0, 0);
        Checks.same("which", x.why(0, 0), 1);
        Checks.same("KEY", x.why(0, 1), 31);
        Checks.same("INDEX", x.why(1, 0), -1);
        Checks.same("VALUE", x.why(1, 1), -1);
        Checks.same("the other KEY", x.why(2, 0), -1);
        Checks.same("its STAMP", x.why(2, 1), -1);
    }

    private static void whyOfLoad() {
        LateIndexes x = new LateIndexes();
        int changes = 0;
        for (int seed = 0; seed < 200; seed++) {
            long[] at = {seed};
            if (draw(at, 8) == 1) {
                int key = draw(at, 32);
                Checks.same("load of a change without a ROW", x.load(seed, 1), 1);
                Checks.same("which", x.why(0, 0), 1);
                Checks.same("KEY", x.why(0, 1), key);
                changes++;
            }
        }
        Checks.same("some were", changes > 5, true);
        Checks.same("STAMP", x.count(0), 0);
    }

    private static void tooManyEntries() {
        LateIndexes x = new LateIndexes();
        x.set(0, 12);
        x.set(1, 4);
        Tape.define(x, "by a+b+b+b");
        Tape.define(x, "by a where b=15");
        int writes = 0;
        for (; writes < 96; writes++) {
            x.put(writes % 24, writes / 24, writes / 24, 0, 0);
        }
        Checks.same("ENTRIES", x.index(0, 4), 96);
        Checks.same("STALE", x.index(0, 5), 72);
        Checks.same("least REPAIRED", x.index(0, 8), 12);
        x.put(31, 15, 15, 0, 0);
        Checks.same("ENTRIES behind the 97th", x.index(0, 4), 25);
        Checks.same("STALE", x.index(0, 5), 0);
        Checks.same("least REPAIRED", x.index(0, 8), 97);
        Checks.same("what the other INDEX has", x.index(1, 4), 1);
        Checks.same("SURE", x.count(7), 97);
    }
}
