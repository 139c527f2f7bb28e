/** Promises 12 to 14, 26, 27, 32 and 33: FLUSH, MERGES, REPAIR, SURE, and what is counted. */
final class RunTests {
    private RunTests() {
    }

    static void all() {
        Checks.test("promise 12: flush", RunTests::flush);
        Checks.test("promise 12: of an INDEX the latest ENTRIES alone become a RUN", RunTests::flushIndex);
        Checks.test("promise 12: FAN RUNS of one LEVEL, the newest such ones", RunTests::flushMerges);
        Checks.test("promise 12: a MERGE may bring the next one", RunTests::flushMergesOn);
        Checks.test("promise 12: more than 20 RUNS of the TABLE and of an INDEX", RunTests::moreThanTwenty);
        Checks.test("promise 12: a RUN without VERSIONS is none", RunTests::mergedToNone);
        Checks.test("promise 13: merge of the TABLE", RunTests::mergeTable);
        Checks.test("promise 13: merge of the TABLE lets what is GONE go", RunTests::mergeGoneKeys);
        Checks.test("promise 13: merge of an INDEX", RunTests::mergeIndex);
        Checks.test("promise 13: merge of an INDEX that MENDS", RunTests::mergeMends);
        Checks.test("promise 13: merge of what isn't there", RunTests::mergeNone);
        Checks.test("promise 13: what is GONE stays above SURE", RunTests::mergeGone);
        Checks.test("promise 14: repair", RunTests::repair);
        Checks.test("promise 14: repair leaves MEMORY, and an INDEX that is BUILDING", RunTests::repairMemory);
        Checks.test("promise 26: count", RunTests::count);
        Checks.test("promise 26: SURE", RunTests::sure);
        Checks.test("promise 26: NEXT", RunTests::next);
        Checks.test("promise 27: run", RunTests::run);
        Checks.test("promise 32: would", RunTests::would);
        Checks.test("promise 33: held", RunTests::held);
    }

    private static void flush() {
        LateIndexes x = new LateIndexes();
        Checks.same("flush of nothing", x.flush(), false);
        x.change(0, 0, 0);
        Checks.same("flush behind what was REFUSED", x.flush(), false);
        x.remove(17);
        x.put(9, 1, 2, 3, 4);
        x.put(9, 1, 2, 3, 5);
        Checks.same("flush", x.flush(), true);
        Checks.same("RUNS", x.count(3), 1);
        Checks.same("VERSIONS", x.run(0, 0), 2);
        Checks.same("LEVEL", x.run(0, 1), 0);
        Checks.same("FROM", x.run(0, 2), 1);
        Checks.same("TO", x.run(0, 3), 3);
        Checks.same("FILTER", x.run(0, 4), 2);
        Checks.same("VERSIONS in MEMORY", x.count(2), 0);
        Checks.same("WRITES", x.count(1), 0);
        Checks.same("flush again", x.flush(), false);
        Checks.same("GONE in RUNS", x.count(6), 1);
    }

    private static void flushIndex() {
        LateIndexes x = new LateIndexes();
        x.set(0, 12);
        Tape.define(x, "by a");
        Tape.define(x, "by b where a>7");
        x.put(1, 9, 4, 0, 0);
        x.put(2, 5, 4, 0, 0);
        x.put(1, 3, 4, 0, 0);
        x.put(3, 5, 4, 0, 0);
        x.remove(2);
        Checks.same("ENTRIES", x.index(0, 4), 4);
        Checks.same("ENTRIES", x.index(1, 4), 1);
        x.flush();
        Checks.same("ENTRIES", x.index(0, 20), 2);
        Checks.same("VALUE", x.entry(0, 0, 0, 0), 3);
        Checks.same("STAMP", x.entry(0, 0, 0, 2), 3);
        Checks.same("KEY", x.entry(0, 0, 1, 1), 3);
        Checks.same("REPAIRED", x.index(0, 100), 5);
        Checks.same("LEVEL", x.index(0, 60), 0);
        Checks.same("MEMORY", x.entry(0, -1, 0, 0), -2);
        Checks.same("RUNS", x.index(1, 3), 0);
        Checks.same("ENTRIES", x.index(1, 4), 0);
    }

    /** A FLUSH of one WRITE. */
    private static void level0(LateIndexes x, int key) {
        x.put(key, key % 16, 0, 0, 0);
        x.flush();
    }

    private static void flushMerges() {
        LateIndexes x = new LateIndexes();
        x.set(1, 4);
        for (int key = 0; key < 3; key++) {
            level0(x, key);
        }
        Checks.same("RUNS", x.count(3), 3);
        x.set(1, 2);
        level0(x, 3);
        Checks.same("RUNS: two, and two more, then both", x.count(3), 1);
        Checks.same("LEVEL", x.run(0, 1), 2);
        x.set(1, 4);
        for (int key = 0; key < 3; key++) {
            level0(x, key);
        }
        x.set(1, 3);
        level0(x, 9);
        Checks.same("RUNS: of four the three newest", x.count(3), 3);
        Checks.same("LEVEL", x.run(0, 1), 1);
        Checks.same("FROM", x.run(0, 2), 6);
        Checks.same("TO", x.run(0, 3), 8);
        Checks.same("LEVEL", x.run(1, 1), 0);
        Checks.same("FROM", x.run(1, 2), 5);
        Checks.same("LEVEL", x.run(2, 1), 2);
    }

    private static void flushMergesOn() {
        LateIndexes x = new LateIndexes();
        Tape.define(x, "by a");
        for (int i = 1; i <= 16; i++) {
            level0(x, i % 32);
            Checks.same("RUNS", x.count(3), Integer.bitCount(i));
            Checks.same("RUNS of the INDEX", x.index(0, 3), Integer.bitCount(i));
            Checks.same("LEVEL", x.run(0, 1), Integer.numberOfTrailingZeros(i));
            Checks.same("LEVEL", x.index(0, 60), Integer.numberOfTrailingZeros(i));
            Checks.same("REPAIRED", x.index(0, 100), i - (i & -i) + 1);
        }
    }

    /** 20 RUNS of the TABLE and of INDEX 0, none of which four of one LEVEL stand together. */
    private static void twenty(LateIndexes x) {
        x.set(0, 12);
        x.set(1, 4);
        int key = 0;
        for (int i = 0; i < 9; i++) {
            level0(x, key++ % 32);
            level0(x, key++ % 32);
            level0(x, key++ % 32);
            x.merge(-1, 0, 2);
            x.merge(0, 0, 2);
        }
        level0(x, key++ % 32);
        level0(x, key % 32);
    }

    private static void moreThanTwenty() {
        LateIndexes x = new LateIndexes();
        Tape.define(x, "by a");
        twenty(x);
        Checks.same("RUNS", x.count(3), 20);
        Checks.same("RUNS of the INDEX", x.index(0, 3), 20);
        Checks.same("LEVEL of the 20th", x.index(0, 79), 0);
        Checks.same("REPAIRED of the 20th", x.index(0, 119), 1);
        Checks.same("ENTRIES of a 21st", x.index(0, 40), -2);
        x.remove(30);
        Checks.same("NEXT", x.count(13), 1);
        x.flush();
        Checks.same("RUNS", x.count(3), 1);
        Checks.same("LEVEL", x.run(0, 1), 2);
        Checks.same("FROM", x.run(0, 2), 1);
        Checks.same("TO", x.run(0, 3), 30);
        Checks.same("RUNS of the INDEX, which had no ENTRY more", x.index(0, 3), 20);
        level0(x, 31);
        Checks.same("RUNS", x.count(3), 2);
        Checks.same("RUNS of the INDEX", x.index(0, 3), 1);
        Checks.same("LEVEL", x.index(0, 60), 2);
        Checks.same("REPAIRED", x.index(0, 100), 1);
    }

    private static void mergedToNone() {
        LateIndexes x = new LateIndexes();
        x.remove(1);
        x.flush();
        Checks.same("RUNS", x.count(3), 1);
        x.remove(2);
        Checks.same("NEXT", x.count(13), 1);
        x.flush();
        Checks.same("RUNS", x.count(3), 0);
        Checks.same("row", x.row(2, 4), -1);
        Tape.define(x, "by a mends");
        x.build(0, 32);
        x.set(1, 4);
        x.put(1, 1, 0, 0, 0);
        x.flush();
        x.put(1, 1, 1, 0, 0);
        x.flush();
        x.remove(1);
        Checks.same("merge", x.merge(0, 0, 2), 0);
        Checks.same("RUNS of the INDEX", x.index(0, 3), 0);
    }

    private static void mergeGoneKeys() {
        LateIndexes x = new LateIndexes();
        x.set(0, 12);
        x.set(1, 4);
        x.put(16, 0, 0, 0, 0);
        x.remove(0);
        x.remove(31);
        x.flush();
        x.remove(7);
        x.put(0, 1, 1, 1, 1);
        x.flush();
        x.remove(31);
        x.merge(-1, 0, 2);
        Checks.same("VERSIONS", x.run(0, 0), 2);
        Checks.same("the first KEY, written again", x.row(0, 4), 5);
        Checks.same("the last KEY, GONE in MEMORY", x.row(31, 4), 6);
        Checks.same("KEY", x.run(0, 11), 16);
        x.remove(0);
        x.flush();
        x.put(1, 0, 0, 0, 0);
        x.flush();
        x.merge(-1, 0, 3);
        Checks.same("the first KEY", x.row(0, 4), -1);
        Checks.same("the last KEY", x.row(31, 4), -1);
        Checks.same("VERSIONS", x.count(4), 2);
    }

    private static void mergeTable() {
        LateIndexes x = new LateIndexes();
        x.set(0, 12);
        x.set(1, 4);
        x.put(1, 1, 0, 0, 0);
        x.put(2, 2, 0, 0, 0);
        x.flush();
        x.remove(1);
        x.put(9, 3, 0, 0, 0);
        x.flush();
        x.put(2, 5, 0, 0, 0);
        x.flush();
        Checks.same("merge of the two newest", x.merge(-1, 0, 2), 2);
        Checks.same("VERSIONS", x.run(0, 0), 3);
        Checks.same("LEVEL", x.run(0, 1), 1);
        Checks.same("FROM", x.run(0, 2), 3);
        Checks.same("TO", x.run(0, 3), 5);
        Checks.same("FILTER", x.run(0, 4), 6);
        Checks.same("GONE", x.count(6), 1);
        Checks.same("row", x.row(2, 0), 5);
        Checks.same("row", x.row(1, 4), 3);
        Checks.same("merge of all", x.merge(-1, 0, 2), 1);
        Checks.same("VERSIONS", x.run(0, 0), 2);
        Checks.same("LEVEL", x.run(0, 1), 2);
        Checks.same("FROM", x.run(0, 2), 1);
        Checks.same("TO", x.run(0, 3), 5);
        Checks.same("row", x.row(1, 4), -1);
        Checks.same("row", x.row(2, 4), 5);
        Checks.same("row", x.row(9, 4), 4);
        x.put(9, 4, 0, 0, 0);
        x.flush();
        x.put(9, 5, 0, 0, 0);
        x.flush();
        Checks.same("merge of the two oldest", x.merge(-1, 1, 2), 2);
        Checks.same("LEVEL: one more than the greatest", x.run(1, 1), 3);
        Checks.same("TO", x.run(1, 3), 6);
        Checks.same("LEVEL of the newest", x.run(0, 1), 0);
    }

    private static void mergeIndex() {
        LateIndexes x = new LateIndexes();
        x.set(1, 4);
        Tape.define(x, "by a");
        x.put(1, 5, 0, 0, 0);
        x.put(2, 5, 0, 0, 0);
        x.flush();
        x.put(1, 5, 1, 0, 0);
        x.put(2, 6, 0, 0, 0);
        x.flush();
        x.put(1, 4, 0, 0, 0);
        x.flush();
        Checks.same("merge", x.merge(0, 0, 3), 1);
        Checks.same("ENTRIES", x.index(0, 20), 4);
        int[][] due = {{4, 1, 5}, {5, 1, 3}, {5, 2, 2}, {6, 2, 4}};
        for (int i = 0; i < 4; i++) {
            for (int what = 0; what < 3; what++) {
                Checks.same("entry " + i + " " + what, x.entry(0, 0, i, what), due[i][what]);
            }
        }
        Checks.same("LEVEL", x.index(0, 60), 1);
        Checks.same("REPAIRED, the least", x.index(0, 100), 2);
        Checks.same("RUNS of the TABLE stay", x.count(3), 3);
        x.put(3, 0, 0, 0, 0);
        x.flush();
        Checks.same("merge", x.merge(0, 0, 2), 1);
        Checks.same("LEVEL", x.index(0, 60), 2);
    }

    private static void mergeMends() {
        LateIndexes x = new LateIndexes();
        x.set(1, 4);
        Tape.define(x, "by a mends");
        x.put(1, 5, 0, 0, 0);
        x.put(2, 7, 0, 0, 0);
        x.flush();
        x.put(1, 6, 0, 0, 0);
        x.flush();
        x.remove(2);
        x.put(3, 1, 0, 0, 0);
        Checks.same("merge", x.merge(0, 0, 2), 1);
        Checks.same("ENTRIES", x.index(0, 20), 1);
        Checks.same("VALUE", x.entry(0, 0, 0, 0), 6);
        Checks.same("REPAIRED", x.index(0, 100), 5);
        Checks.same("ENTRIES, of MEMORY too", x.index(0, 4), 2);
    }

    private static void mergeNone() {
        LateIndexes x = new LateIndexes();
        x.set(1, 4);
        Tape.define(x, "by a");
        for (int key = 0; key < 3; key++) {
            level0(x, key);
        }
        int[][] none = {{0, 0}, {0, 1}, {0, -1}, {0, 4}, {-1, 2}, {2, 2}, {3, 2}, {4, 2}, {1, Integer.MAX_VALUE},
            {Integer.MAX_VALUE, 2}, {Integer.MAX_VALUE, Integer.MAX_VALUE}, {Integer.MIN_VALUE, 3},
            {0, Integer.MIN_VALUE}};
        for (int[] n : none) {
            for (int index = -1; index < 2; index++) {
                Checks.same("merge " + n[0] + " " + n[1], x.merge(index, n[0], n[1]), -1);
                Checks.same("would " + n[0] + " " + n[1], x.would(index, n[0], n[1]), -1);
            }
        }
        Checks.same("no such INDEX", x.merge(1, 0, 2), -1);
        Checks.same("no such INDEX", x.merge(-2, 0, 2), -1);
        Checks.same("no such INDEX", x.merge(4, 0, 2), -1);
        Checks.same("RUNS", x.count(3), 3);
        Checks.same("RUNS of the INDEX", x.index(0, 3), 3);
    }

    private static void mergeGone() {
        LateIndexes x = new LateIndexes();
        x.set(0, 12);
        x.set(1, 4);
        Tape.define(x, "by a");
        x.put(1, 1, 0, 0, 0);
        x.put(2, 1, 0, 0, 0);
        x.remove(1);
        x.flush();
        x.remove(2);
        x.put(3, 1, 0, 0, 0);
        x.flush();
        Checks.same("SURE", x.count(7), 3);
        Checks.same("merge", x.merge(-1, 0, 2), 1);
        Checks.same("GONE at SURE goes", x.row(1, 4), -1);
        Checks.same("GONE above SURE stays", x.row(2, 4), 4);
        Checks.same("GONE", x.count(6), 1);
        x.put(4, 1, 0, 0, 0);
        x.flush();
        x.repair(0);
        Checks.same("SURE", x.count(7), 6);
        Checks.same("GONE stays till a MERGE", x.count(6), 1);
        x.put(4, 2, 0, 0, 0);
        x.flush();
        Checks.same("merge without the oldest", x.merge(-1, 0, 2), 2);
        Checks.same("GONE", x.count(6), 1);
        x.remove(2);
        x.merge(-1, 0, 2);
        Checks.same("GONE in RUNS", x.count(6), 0);
        Checks.same("GONE in MEMORY", x.row(2, 4), 8);
    }

    private static void repair() {
        LateIndexes x = new LateIndexes();
        x.set(1, 4);
        Tape.define(x, "by a");
        x.put(1, 5, 0, 0, 0);
        x.put(2, 5, 0, 0, 0);
        x.flush();
        x.put(1, 6, 0, 0, 0);
        x.put(2, 7, 0, 0, 0);
        x.flush();
        x.merge(0, 0, 2);
        x.put(3, 1, 0, 0, 0);
        x.flush();
        x.put(3, 2, 0, 0, 0);
        x.put(4, 2, 0, 0, 0);
        x.flush();
        x.remove(4);
        Checks.same("RUNS", x.index(0, 3), 3);
        Checks.same("repair", x.repair(0), 4);
        Checks.same("RUNS", x.index(0, 3), 2);
        Checks.same("ENTRIES", x.index(0, 20), 1);
        Checks.same("LEVEL", x.index(0, 60), 0);
        Checks.same("ENTRIES", x.index(0, 21), 2);
        Checks.same("LEVEL", x.index(0, 61), 1);
        Checks.same("REPAIRED", x.index(0, 100), 8);
        Checks.same("REPAIRED", x.index(0, 101), 8);
        x.put(9, 9, 9, 9, 9);
        Checks.same("repair again", x.repair(0), 0);
        Checks.same("REPAIRED", x.index(0, 101), 9);
        Checks.same("no such INDEX", x.repair(1), -1);
        Checks.same("no such INDEX", x.repair(-1), -1);
        Checks.same("no such INDEX", x.repair(4), -1);
    }

    private static void repairMemory() {
        LateIndexes x = new LateIndexes();
        x.put(1, 1, 0, 0, 0);
        Tape.define(x, "by a");
        x.put(1, 2, 0, 0, 0);
        x.put(1, 3, 0, 0, 0);
        Checks.same("STALE", x.index(0, 5), 1);
        Checks.same("repair", x.repair(0), 0);
        Checks.same("STALE", x.index(0, 5), 1);
        x.flush();
        x.put(1, 4, 0, 0, 0);
        Checks.same("repair", x.repair(0), 1);
        Checks.same("BUILDING still", x.index(0, 0), 1);
        Checks.same("BEGUN", x.index(0, 8), 1);
    }

    private static void count() {
        LateIndexes x = new LateIndexes();
        x.set(0, 7);
        Tape.define(x, "by a");
        Tape.define(x, "by 1 where a=15 unique");
        Tape.define(x, "by c");
        x.drop(0);
        x.put(1, 15, 0, 0, 0);
        x.put(2, 0, 0, 0, 0);
        x.put(2, 15, 0, 0, 0);
        x.remove(1);
        x.remove(1);
        x.change(30, 0, 0);
        x.put(2, 1, 1, 1, 1);
        x.open(2, 0, 9);
        x.open(2, 0, 9);
        Tape.put(x, "by by");
        int[] due = {5, 5, 2, 0, 0, 1, 0, -1, 0, 2, 6, 2, 0, 0, 5};
        for (int what = 0; what < due.length; what++) {
            Checks.same("count " + what, x.count(what), due[what]);
        }
        x.remove(3);
        x.remove(4);
        int[] then = {7, 0, 0, 1, 4, 1, 3, 7, 0, 2, 6, 2, 0, 0, 5};
        for (int what = 0; what < then.length; what++) {
            Checks.same("then count " + what, x.count(what), then[what]);
        }
        Checks.same("another what", x.count(15), -1);
        Checks.same("another what", x.count(-1), -1);
        Checks.same("another what", x.count(Integer.MAX_VALUE), -1);
        Checks.same("another what", x.count(Integer.MIN_VALUE), -1);
    }

    private static void sure() {
        LateIndexes x = new LateIndexes();
        x.put(1, 1, 1, 0, 0);
        x.put(2, 2, 2, 0, 0);
        Checks.same("SURE, no INDEX", x.count(7), -1);
        Tape.define(x, "by a");
        Checks.same("SURE, one BUILDING", x.count(7), 2);
        x.put(3, 1, 0, 0, 0);
        Tape.define(x, "by b");
        x.flush();
        Checks.same("SURE, the least", x.count(7), 2);
        x.build(0, 32);
        Checks.same("SURE, a RUN that was built", x.count(7), 2);
        Checks.same("repair", x.repair(0), 0);
        Checks.same("SURE, of the other one BUILDING", x.count(7), 3);
        x.build(1, 32);
        x.put(4, 0, 0, 0, 0);
        x.repair(1);
        Checks.same("SURE", x.count(7), 3);
        x.repair(0);
        Checks.same("SURE", x.count(7), 4);
        x.drop(0);
        x.drop(1);
        Checks.same("SURE", x.count(7), -1);
    }

    private static void next() {
        LateIndexes x = new LateIndexes();
        for (int i = 1; i <= 20; i++) {
            Checks.same("NEXT without a WRITE", x.count(13), 0);
            x.put(i, 0, 0, 0, 0);
            Checks.same("NEXT of FLUSH " + i, x.count(13), Integer.numberOfTrailingZeros(i));
            x.flush();
        }
        LateIndexes y = new LateIndexes();
        y.put(1, 0, 0, 0, 0);
        y.flush();
        y.put(2, 0, 0, 0, 0);
        y.flush();
        y.remove(3);
        y.flush();
        y.remove(1);
        y.remove(2);
        Checks.same("NEXT: two, then both, which leaves none", y.count(13), 2);
        y.flush();
        Checks.same("RUNS", y.count(3), 0);
        Checks.same("KEYS that ARE THERE", y.count(5), 0);
    }

    private static void run() {
        LateIndexes x = new LateIndexes();
        x.set(0, 12);
        x.put(31, 0, 0, 0, 0);
        x.remove(0);
        x.put(8, 0, 0, 0, 0);
        x.put(21, 0, 0, 0, 0);
        x.put(0, 1, 0, 0, 0);
        Checks.same("no RUN", x.run(0, 0), -1);
        x.flush();
        int[] due = {4, 0, 1, 5, 1 + 32 + 128};
        for (int what = 0; what < due.length; what++) {
            Checks.same("run " + what, x.run(0, what), due[what]);
        }
        int[] keys = {0, 8, 21, 31, -1};
        for (int i = 0; i < keys.length; i++) {
            Checks.same("KEY " + i, x.run(0, 10 + i), keys[i]);
        }
        int[] none = {-1, 5, 9, 42, Integer.MAX_VALUE, Integer.MIN_VALUE};
        for (int what : none) {
            Checks.same("another what", x.run(0, what), -1);
        }
        x.set(1, 4);
        x.put(5, 0, 0, 0, 0);
        x.flush();
        Checks.same("the newest first", x.run(0, 10), 5);
        Checks.same("FROM", x.run(0, 2), 6);
        Checks.same("the older one", x.run(1, 0), 4);
        Checks.same("no RUN", x.run(2, 0), -1);
        Checks.same("no RUN", x.run(-1, 0), -1);
        Checks.same("no RUN", x.run(Integer.MIN_VALUE, 0), -1);
        Checks.same("no RUN", x.run(Integer.MAX_VALUE, 0), -1);
    }

    private static void would() {
        LateIndexes x = new LateIndexes();
        x.set(1, 4);
        Tape.define(x, "by a");
        x.put(1, 5, 0, 0, 0);
        x.put(2, 5, 0, 0, 0);
        x.flush();
        x.put(1, 5, 1, 0, 0);
        x.put(2, 6, 0, 0, 0);
        x.flush();
        x.put(1, 4, 0, 0, 0);
        x.flush();
        Checks.same("would of all", x.would(0, 0, 3), 4);
        Checks.same("would of the newest", x.would(0, 0, 2), 3);
        Checks.same("would of the oldest", x.would(0, 1, 2), 3);
        x.mend(0, true);
        Checks.same("would, if it MENDS", x.would(0, 0, 3), 2);
        Checks.same("would, if it MENDS", x.would(0, 1, 2), 1);
        x.remove(2);
        x.remove(1);
        Checks.same("would, all being STALE", x.would(0, 0, 3), 0);
        x.mend(0, false);
        Checks.same("would, if it does not", x.would(0, 0, 3), 4);
        Checks.same("nothing is MERGED", x.index(0, 3), 3);
        Checks.same("of the TABLE", x.would(-1, 0, 2), -1);
        Checks.same("no such INDEX", x.would(1, 0, 2), -1);
        Checks.same("no such INDEX", x.would(4, 0, 2), -1);
    }

    private static void held() {
        LateIndexes x = new LateIndexes();
        x.set(0, 12);
        Tape.define(x, "by a where b=1");
        Tape.define(x, "by a");
        x.put(1, 1, 0, 0, 0);
        x.flush();
        x.remove(1);
        Checks.same("GONE in MEMORY", x.held(1), 1);
        Tape.define(x, "by b");
        x.remove(2);
        Checks.same("one that stays", x.held(0), -1);
        Checks.same("BEGUN ahead, behind an INDEX", x.held(2), 1);
        x.drop(1);
        Checks.same("BEGUN at it", x.held(1), -1);
        Checks.same("BEGUN ahead of it", x.held(2), 2);
        x.put(3, 3, 1, 0, 0);
        x.flush();
        Checks.same("GONE in a RUN", x.held(2), 2);
        Checks.same("REPAIRED behind it", x.index(0, 100), 4);
        Checks.same("THERE", x.held(3), -1);
        x.remove(3);
        Checks.same("REPAIRED ahead of it", x.held(3), 0);
        x.repair(0);
        Checks.same("REPAIRED at it", x.held(3), 2);
        x.build(2, 32);
        Checks.same("of a RUN that was built", x.held(3), 2);
        x.repair(2);
        Checks.same("by none", x.held(3), -1);
        Checks.same("no such KEY", x.held(32), -1);
        Checks.same("no such KEY", x.held(-1), -1);
        Checks.same("a KEY without a VERSION", x.held(9), -1);
    }
}
