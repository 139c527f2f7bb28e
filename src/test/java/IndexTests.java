/** Promises 15, 16, 28 and 29: INDEXES that are built, dropped, told, and their ENTRIES. */
final class IndexTests {
    private IndexTests() {
    }

    static void all() {
        Checks.test("promise 15: build, KEY by KEY", IndexTests::build);
        Checks.test("promise 15: build beside WRITES", IndexTests::buildBesideWrites);
        Checks.test("promise 15: the LEVEL and REPAIRED of what is built", IndexTests::buildLevel);
        Checks.test("promise 15: build of nothing that is WANTED", IndexTests::buildNothing);
        Checks.test("promise 15: build that CLASHES", IndexTests::buildClashes);
        Checks.test("promise 15: a CLASH is of what is THERE at the end", IndexTests::clashAtEnd);
        Checks.test("promise 15: build of what is none", IndexTests::buildNone);
        Checks.test("promise 15: a build above 20 RUNS and 96 ENTRIES", IndexTests::buildAbove);
        Checks.test("promise 16: drop", IndexTests::drop);
        Checks.test("promise 28: index, of what is BUILT", IndexTests::told);
        Checks.test("promise 28: index, of what is BUILDING", IndexTests::toldBuilding);
        Checks.test("promise 28: WASTE", IndexTests::waste);
        Checks.test("promise 28: UNUSED and CROWDED", IndexTests::filled);
        Checks.test("promise 28: WORST", IndexTests::worst);
        Checks.test("promise 28: index of what is none", IndexTests::toldNone);
        Checks.test("promise 29: entry", IndexTests::entry);
        Checks.test("promise 29: LOOKS", IndexTests::looks);
        Checks.test("promise 29: entry of what is none", IndexTests::entryNone);
    }

    private static void build() {
        LateIndexes x = new LateIndexes();
        x.set(0, 12);
        for (int key = 0; key < 32; key += 3) {
            x.put(key, 15 - key % 16, 0, 0, 0);
        }
        x.remove(3);
        Tape.define(x, "by a where a>1");
        Checks.same("build 1", x.build(0, 1), 31);
        Checks.same("kept aside", x.index(0, 9), 1);
        Checks.same("build 9", x.build(0, 9), 22);
        Checks.same("kept aside: 0, 6, 9", x.index(0, 9), 3);
        Checks.same("ENTRIES", x.index(0, 4), 0);
        Checks.same("build 21", x.build(0, 21), 1);
        Checks.same("to go", x.index(0, 7), 1);
        Checks.same("build of more than are left", x.build(0, 32), 0);
        Checks.same("BUILT", x.index(0, 0), 2);
        Checks.same("to go", x.index(0, 7), 0);
        Checks.same("kept aside", x.index(0, 9), 0);
        int[][] due = {{3, 12, 5}, {4, 27, 10}, {6, 9, 4}, {7, 24, 9}, {9, 6, 3}, {10, 21, 8}};
        for (int i = 0; i < due.length; i++) {
            for (int what = 0; what < 3; what++) {
                Checks.same("entry " + i + " " + what, x.entry(0, 0, i, what), due[i][what]);
            }
        }
        Checks.same("ENTRIES", x.index(0, 20), 8);
        Checks.same("the last", x.entry(0, 0, 7, 1), 0);
        Checks.same("REPAIRED", x.index(0, 100), 12);
        Checks.same("LEVEL", x.index(0, 60), 0);
        Checks.same("asked", x.ask(0, 0, 15, -1), 8);
    }

    private static void buildBesideWrites() {
        LateIndexes x = new LateIndexes();
        x.set(0, 12);
        x.put(1, 1, 0, 0, 0);
        x.put(20, 2, 0, 0, 0);
        Tape.define(x, "by a");
        x.build(0, 10);
        x.put(1, 3, 0, 0, 0);
        x.put(20, 4, 0, 0, 0);
        x.put(21, 5, 0, 0, 0);
        x.build(0, 32);
        Checks.same("ENTRIES", x.index(0, 4), 6);
        Checks.same("of the RUN", x.index(0, 20), 3);
        int[][] due = {{1, 1, 1, 1}, {4, 20, 4, 0}, {5, 21, 5, 0}};
        for (int i = 0; i < 3; i++) {
            for (int what = 0; what < 4; what++) {
                Checks.same("entry " + i + " " + what, x.entry(0, 0, i, what), due[i][what]);
            }
        }
        Checks.same("STALE", x.index(0, 5), 1);
        Checks.same("WASTE", x.index(0, 6), 3);
        Checks.same("asked", x.ask(0, 0, 15, -1), 3);
        Checks.same("DOUBLE", x.cost(2), 3);
        Checks.same("STALE that were looked at", x.cost(1), 0);
    }

    private static void buildLevel() {
        LateIndexes x = new LateIndexes();
        x.put(1, 1, 0, 0, 0);
        Tape.define(x, "by a");
        for (int key = 2; key < 5; key++) {
            x.put(key, key, 0, 0, 0);
            x.flush();
        }
        Checks.same("RUNS", x.index(0, 3), 2);
        Checks.same("LEVEL", x.index(0, 61), 1);
        x.build(0, 32);
        Checks.same("RUNS", x.index(0, 3), 3);
        Checks.same("LEVEL", x.index(0, 62), 2);
        Checks.same("REPAIRED", x.index(0, 102), 1);
        Checks.same("ENTRIES", x.index(0, 22), 4);
        Checks.same("LEVEL of the newest", x.index(0, 60), 0);
    }

    private static void buildNothing() {
        LateIndexes x = new LateIndexes();
        x.put(1, 1, 0, 0, 0);
        Tape.define(x, "by a where a>7");
        Checks.same("build", x.build(0, 32), 0);
        Checks.same("RUNS", x.index(0, 3), 0);
        Checks.same("BUILT", x.index(0, 0), 2);
        Checks.same("REPAIRED", x.index(0, 8), -1);
        Checks.same("UNUSED", x.index(0, 10), 0);
    }

    private static void buildClashes() {
        LateIndexes x = new LateIndexes();
        x.set(0, 12);
        x.put(30, 9, 0, 0, 0);
        x.put(5, 9, 0, 0, 0);
        x.put(29, 7, 0, 0, 0);
        x.put(9, 7, 0, 0, 0);
        x.put(8, 7, 0, 0, 0);
        x.put(0, 1, 1, 0, 0);
        x.put(1, 1, 1, 0, 0);
        Tape.define(x, "by d");
        Tape.define(x, "by a where b=0 unique");
        Checks.same("build", x.build(1, 31), 1);
        Checks.same("build", x.build(1, 1), -2);
        Checks.same("is no more", x.index(1, 0), -2);
        Checks.same("the other one is", x.index(0, 0), 1);
        Checks.same("builds that CLASHED", x.count(12), 1);
        Checks.same("REFUSED", x.count(11), 0);
        Checks.same("which", x.why(0, 0), 2);
        Checks.same("KEY", x.why(0, 1), 9);
        Checks.same("INDEX", x.why(1, 0), 1);
        Checks.same("VALUE", x.why(1, 1), 7);
        Checks.same("the other KEY", x.why(2, 0), 8);
        Checks.same("its STAMP", x.why(2, 1), 5);
        Checks.same("SURE", x.count(7), 7);
        Checks.same("a new one", Tape.define(x, "by a"), 1);
        Checks.same("to go", x.index(1, 7), 32);
        Checks.same("kept aside", x.index(1, 9), 0);
    }

    private static void clashAtEnd() {
        LateIndexes x = new LateIndexes();
        x.set(0, 12);
        x.put(1, 7, 0, 0, 0);
        x.put(2, 7, 0, 0, 0);
        Tape.define(x, "by a unique");
        x.build(0, 16);
        x.put(2, 8, 0, 0, 0);
        Checks.same("they have one VALUE no more", x.build(0, 16), 0);
        Tape.define(x, "by a unique");
        x.build(1, 16);
        x.drop(0);
        x.put(3, 8, 0, 0, 0);
        Checks.same("they have one VALUE now", x.build(1, 16), -2);
        Checks.same("KEY", x.why(0, 1), 3);
        Checks.same("the other KEY", x.why(2, 0), 2);
        Checks.same("its STAMP", x.why(2, 1), 3);
    }

    private static void buildNone() {
        LateIndexes x = new LateIndexes();
        Tape.define(x, "by a");
        Checks.same("BUILT", x.build(0, 1), -1);
        x.remove(1);
        Tape.define(x, "by a");
        int[] none = {0, -1, 33, Integer.MAX_VALUE, Integer.MIN_VALUE};
        for (int n : none) {
            Checks.same("build of " + n, x.build(1, n), -1);
        }
        Checks.same("to go", x.index(1, 7), 32);
        Checks.same("no such INDEX", x.build(2, 1), -1);
        Checks.same("no such INDEX", x.build(-1, 1), -1);
        Checks.same("no such INDEX", x.build(4, 1), -1);
        Checks.same("build of 32", x.build(1, 32), 0);
        Checks.same("BUILT", x.build(1, 32), -1);
    }

    private static void level0(LateIndexes x, int key, int a) {
        x.put(key, a, 0, 0, 0);
        x.flush();
    }

    private static void buildAbove() {
        LateIndexes x = new LateIndexes();
        x.set(0, 12);
        x.set(1, 4);
        x.remove(0);
        Tape.define(x, "by a+b");
        int key = 0;
        for (int i = 0; i < 9; i++) {
            level0(x, key++, 1);
            level0(x, key++, 1);
            level0(x, key++, 1);
            x.merge(0, 0, 2);
        }
        level0(x, key++, 1);
        level0(x, key++, 1);
        Checks.same("RUNS", x.index(0, 3), 20);
        x.set(0, 12);
        for (int i = 0; i < 11; i++) {
            x.put(29, i, 0, 0, 0);
        }
        Checks.same("ENTRIES", x.index(0, 4), 40);
        x.build(0, 32);
        Checks.same("RUNS", x.index(0, 3), 21);
        Checks.same("ENTRIES", x.index(0, 4), 70);
        Checks.same("ENTRIES of the 21st", x.index(0, 40), 30);
        Checks.same("LEVEL of the 21st", x.index(0, 80), 2);
        Checks.same("REPAIRED of the 21st", x.index(0, 120), 1);
        x.flush();
        Checks.same("RUNS", x.index(0, 3), 1);
        Checks.same("ENTRIES", x.index(0, 4), 30);
        Checks.same("LEVEL", x.index(0, 60), 3);

        LateIndexes y = new LateIndexes();
        y.set(0, 12);
        y.put(0, 0, 0, 0, 0);
        Tape.define(y, "by a");
        y.set(1, 4);
        for (int i = 0; i < 96; i++) {
            y.put(i % 32, i / 12, 0, 0, 0);
            if (i % 12 == 10) {
                y.flush();
            }
        }
        Checks.same("ENTRIES", y.index(0, 4), 96);
        y.build(0, 32);
        Checks.same("ENTRIES", y.index(0, 4), 128);
        y.flush();
        int merged = y.index(0, 4);
        Checks.same("ENTRIES behind a FLUSH", merged > 96, true);
        Checks.same("STALE", y.index(0, 5) > 0, true);
        y.remove(0);
        Checks.same("ENTRIES behind a WRITE", y.index(0, 4) <= 62, true);
        Checks.same("STALE", y.index(0, 5), 0);
    }

    private static void drop() {
        LateIndexes x = new LateIndexes();
        Tape.define(x, "by a");
        Tape.define(x, "by b");
        x.put(1, 2, 3, 0, 0);
        x.flush();
        Tape.define(x, "by c");
        Checks.same("drop", x.drop(0), true);
        Checks.same("drop again", x.drop(0), false);
        Checks.same("drop one BUILDING", x.drop(2), true);
        Checks.same("INDEXES", x.count(10), 2);
        Checks.same("the other one", x.ask(1, 3, 3, 0), 1);
        Checks.same("no such INDEX", x.drop(3), false);
        Checks.same("no such INDEX", x.drop(4), false);
        Checks.same("no such INDEX", x.drop(-1), false);
        x.put(2, 5, 5, 0, 0);
        Checks.same("a new one", Tape.define(x, "by d"), 0);
        Checks.same("RUNS of the new one", x.index(0, 3), 0);
        Checks.same("its ENTRIES", x.index(0, 4), 0);
        x.put(3, 6, 6, 0, 0);
        x.put(4, 6, 6, 0, 0);
        x.drop(1);
        Tape.define(x, "by c");
        Checks.same("ENTRIES of one in place of one with a MEMORY", x.index(1, 4), 0);
        Checks.same("RUNS", x.index(1, 3), 0);
        Checks.same("BEGUN", x.index(1, 8), 4);
        Checks.same("VALUE", x.value(0, 1, 2, 3, 4), 4);
    }

    private static void told() {
        LateIndexes x = new LateIndexes();
        x.set(1, 4);
        x.set(0, 12);
        Tape.define(x, "by a unique mends");
        x.put(1, 5, 0, 0, 0);
        x.put(2, 0, 0, 0, 0);
        x.flush();
        x.put(1, 6, 0, 0, 0);
        x.put(3, 5, 0, 0, 0);
        x.flush();
        x.merge(0, 0, 2);
        x.remove(3);
        x.put(4, 9, 0, 0, 0);
        x.flush();
        x.put(4, 8, 0, 0, 0);
        int[] due = {2, 1, 1, 2, 5, 2, 2, 0, 4, 0, 1, 0, 1, 0};
        for (int what = 0; what < due.length; what++) {
            Checks.same("index " + what, x.index(0, what), due[what]);
        }
        Checks.same("ENTRIES", x.index(0, 20), 1);
        Checks.same("ENTRIES", x.index(0, 21), 3);
        Checks.same("LEVEL", x.index(0, 60), 0);
        Checks.same("LEVEL", x.index(0, 61), 1);
        Checks.same("REPAIRED", x.index(0, 100), 6);
        Checks.same("REPAIRED", x.index(0, 101), 4);
    }

    private static void toldBuilding() {
        LateIndexes x = new LateIndexes();
        x.put(1, 5, 0, 0, 0);
        x.put(2, 5, 0, 0, 0);
        Tape.define(x, "by a");
        x.build(0, 2);
        x.put(3, 5, 0, 0, 0);
        x.flush();
        x.put(3, 6, 0, 0, 0);
        int[] due = {1, 0, 0, 1, 2, 1, 1, 30, 2, 1, -2, -2, -2, 0};
        for (int what = 0; what < due.length; what++) {
            Checks.same("index " + what, x.index(0, what), due[what]);
        }
        Checks.same("ENTRIES", x.index(0, 20), 1);
        Checks.same("LEVEL", x.index(0, 60), 0);
        Checks.same("REPAIRED", x.index(0, 100), 3);
    }

    private static void waste() {
        LateIndexes x = new LateIndexes();
        x.set(0, 12);
        x.put(0, 5, 0, 0, 0);
        Tape.define(x, "by a");
        x.put(1, 5, 0, 0, 0);
        x.flush();
        x.put(2, 5, 0, 0, 0);
        x.put(3, 5, 0, 0, 0);
        x.build(0, 32);
        Checks.same("ENTRIES", x.index(0, 4), 7);
        Checks.same("STALE", x.index(0, 5), 0);
        Checks.same("WASTE: one in a newer RUN, two in MEMORY", x.index(0, 6), 3);
        x.remove(1);
        Checks.same("STALE", x.index(0, 5), 2);
        Checks.same("WASTE", x.index(0, 6), 4);
        x.put(2, 5, 0, 0, 0);
        Checks.same("STALE, of MEMORY too", x.index(0, 5), 4);
        Checks.same("WASTE", x.index(0, 6), 5);
        x.merge(0, 0, 2);
        Checks.same("WASTE", x.index(0, 6), 4);
    }

    private static void filled() {
        LateIndexes x = new LateIndexes();
        x.set(0, 12);
        Tape.define(x, "by a where b=0");
        Checks.same("UNUSED of none", x.index(0, 10), 0);
        Checks.same("CROWDED of none", x.index(0, 11), -1);
        Checks.same("how many of none", x.index(0, 12), 0);
        x.put(1, 0, 0, 0, 0);
        x.put(2, 2, 0, 0, 0);
        x.put(3, 1, 1, 0, 0);
        Checks.same("UNUSED", x.index(0, 10), 1);
        Checks.same("CROWDED, the least", x.index(0, 11), 0);
        Checks.same("how many", x.index(0, 12), 1);
        x.put(4, 2, 0, 0, 0);
        x.put(5, 3, 0, 0, 0);
        x.put(6, 1, 0, 0, 0);
        x.put(7, 1, 1, 0, 0);
        x.put(8, 1, 1, 0, 0);
        Checks.same("UNUSED", x.index(0, 10), 4);
        Checks.same("CROWDED", x.index(0, 11), 2);
        Checks.same("how many", x.index(0, 12), 2);
        x.put(9, 1, 0, 0, 0);
        Checks.same("CROWDED, the least", x.index(0, 11), 1);
        x.remove(9);
        Checks.same("CROWDED", x.index(0, 11), 2);
        x.flush();
        LateIndexes y = new LateIndexes();
        Tape.define(y, "by a+a+b");
        for (int key = 0; key < 32; key++) {
            y.put(key, key / 2, key % 2, 0, 0);
        }
        Checks.same("UNUSED of all KEYS", y.index(0, 10), 32);
        Checks.same("CROWDED", y.index(0, 11), 0);
    }

    private static void worst() {
        LateIndexes x = new LateIndexes();
        x.set(0, 12);
        x.set(1, 4);
        Tape.define(x, "by a");
        for (int run = 0; run < 3; run++) {
            x.put(3 * run, 1, 0, 0, 0);
            x.put(3 * run + 1, 1, 0, 0, 0);
            x.flush();
        }
        Checks.same("none", x.index(0, 13), -1);
        x.remove(0);
        Checks.same("the oldest", x.index(0, 13), 2);
        x.remove(3);
        Checks.same("of several the newest", x.index(0, 13), 1);
        x.remove(1);
        Checks.same("that has most", x.index(0, 13), 2);
        x.remove(6);
        x.remove(7);
        Checks.same("of several the newest", x.index(0, 13), 0);
    }

    private static void toldNone() {
        LateIndexes x = new LateIndexes();
        Tape.define(x, "by a");
        x.put(1, 1, 0, 0, 0);
        x.flush();
        int[] none = {-1, 14, 19, 21, 59, 61, 99, 101, 140, Integer.MAX_VALUE, Integer.MIN_VALUE};
        for (int what : none) {
            Checks.same("index " + what, x.index(0, what), -2);
        }
        int[] indexes = {-1, 1, 4, Integer.MAX_VALUE, Integer.MIN_VALUE};
        for (int index : indexes) {
            for (int what = -1; what < 120; what++) {
                Checks.same("index " + index + " " + what, x.index(index, what), -2);
            }
        }
    }

    private static void entry() {
        LateIndexes x = new LateIndexes();
        x.set(0, 12);
        Tape.define(x, "by a");
        x.put(2, 5, 0, 0, 0);
        x.put(1, 5, 0, 0, 0);
        x.put(9, 3, 0, 0, 0);
        x.put(1, 5, 0, 0, 0);
        int[][] due = {{3, 9, 3, 0, 1}, {5, 1, 2, 1, 1}, {5, 1, 4, 0, 1}, {5, 2, 1, 0, 1}};
        for (int i = 0; i < 4; i++) {
            for (int what = 0; what < 5; what++) {
                Checks.same("entry " + i + " " + what, x.entry(0, -1, i, what), due[i][what]);
            }
        }
        x.flush();
        x.put(1, 6, 0, 0, 0);
        Checks.same("VALUE", x.entry(0, 0, 1, 0), 5);
        Checks.same("KEY", x.entry(0, 0, 1, 1), 1);
        Checks.same("STAMP", x.entry(0, 0, 1, 2), 4);
        Checks.same("STALE", x.entry(0, 0, 1, 3), 1);
        Checks.same("not STALE", x.entry(0, 0, 0, 3), 0);
        Checks.same("MEMORY", x.entry(0, -1, 0, 0), 6);
    }

    private static void looks() {
        LateIndexes x = new LateIndexes();
        x.set(0, 12);
        x.set(1, 4);
        Tape.define(x, "by a where b=0");
        x.put(1, 1, 0, 0, 0);
        x.put(2, 2, 0, 0, 0);
        x.flush();
        Checks.same("none goes TO above REPAIRED", x.entry(0, 0, 0, 4), 1);
        x.put(9, 1, 1, 0, 0);
        x.flush();
        Checks.same("the KEY modulo 8 is in the FILTER", x.entry(0, 0, 0, 4), 2);
        Checks.same("it is not", x.entry(0, 0, 1, 4), 1);
        x.put(1, 1, 1, 0, 0);
        x.flush();
        Checks.same("the newest has the KEY", x.entry(0, 0, 0, 4), 2);
        x.put(17, 1, 1, 0, 0);
        x.put(2, 1, 0, 0, 0);
        Checks.same("MEMORY has another KEY", x.entry(0, 0, 0, 4), 2);
        Checks.same("MEMORY has the KEY", x.entry(0, 0, 1, 4), 1);
        x.set(1, 3);
        x.flush();
        Checks.same("RUNS", x.count(3), 2);
        Checks.same("LEVEL", x.run(0, 1), 1);
        Checks.same("FROM", x.run(0, 2), 3);
        Checks.same("one RUN that has it", x.entry(0, 1, 0, 4), 2);
        Checks.same("of a RUN that is REPAIRED at its TO", x.entry(0, 0, 0, 4), 1);
        x.remove(2);
        Checks.same("MEMORY has GONE", x.entry(0, 0, 0, 4), 1);
        x.flush();
        Checks.same("a RUN has GONE", x.entry(0, 0, 0, 4), 2);
        Checks.same("no RUN has the KEY up to it", x.entry(0, 1, 1, 4), 2);
        x.repair(0);
        Checks.same("behind a REPAIR", x.index(0, 4), 0);
    }

    private static void entryNone() {
        LateIndexes x = new LateIndexes();
        Tape.define(x, "by a");
        x.put(1, 1, 0, 0, 0);
        x.flush();
        x.put(2, 1, 0, 0, 0);
        int[][] none = {{-1, 0, 0, 0}, {1, 0, 0, 0}, {4, 0, 0, 0}, {0, -2, 0, 0}, {0, 1, 0, 0}, {0, 0, 1, 0},
            {0, 0, -1, 0}, {0, -1, 1, 0}, {0, -1, -1, 0}, {0, 0, 0, 5}, {0, 0, 0, -1}, {0, -1, 0, 5},
            {0, Integer.MIN_VALUE, 0, 0}, {0, Integer.MAX_VALUE, 0, 0}, {0, 0, Integer.MAX_VALUE, 0},
            {0, -1, Integer.MAX_VALUE, 0}, {0, -1, Integer.MIN_VALUE, 0}, {0, 0, 0, Integer.MAX_VALUE}};
        for (int[] n : none) {
            Checks.same("entry", x.entry(n[0], n[1], n[2], n[3]), -2);
        }
        Checks.same("entry", x.entry(0, 0, 0, 0), 1);
        Checks.same("entry", x.entry(0, -1, 0, 1), 2);
    }
}
