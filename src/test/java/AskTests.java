/** Promises 18 to 25: what is ASKED and its COST, and CURSORS. */
final class AskTests {
    private AskTests() {
    }

    static void all() {
        Checks.test("promise 18: ask, by VALUE, then by KEY", AskTests::ask);
        Checks.test("promise 18: ask of the least and the greatest VALUE", AskTests::askEdges);
        Checks.test("promise 18: ask of what is none", AskTests::askNone);
        Checks.test("promise 19: cost", AskTests::cost);
        Checks.test("promise 19: MEMORY first, then the newest RUN", AskTests::costOrder);
        Checks.test("promise 19: cost stays, and is none at first", AskTests::costStays);
        Checks.test("promise 20: both", AskTests::both);
        Checks.test("promises 18 to 24: the first KEY and the last one", AskTests::firstAndLast);
        Checks.test("promise 20: both of what is none", AskTests::bothNone);
        Checks.test("promise 21: sum", AskTests::sum);
        Checks.test("promise 22: near", AskTests::near);
        Checks.test("promise 23: open, three at most", AskTests::open);
        Checks.test("promise 23: open of what is none", AskTests::openNone);
        Checks.test("promise 24: next goes along what was there", AskTests::next);
        Checks.test("promise 25: close", AskTests::close);
        Checks.test("promise 26: LEFT OVER by MERGES and FLUSHES", AskTests::leftOver);
        Checks.test("promise 26: LEFT OVER by REPAIR, drop, and of several CURSORS", AskTests::leftOverOnce);
    }

    private static void keys(LateIndexes x, int index, int low, int high, int... keys) {
        String told = "ask(" + index + ", " + low + ", " + high + ", ";
        Checks.same(told + "-1)", x.ask(index, low, high, -1), keys.length);
        for (int k = 0; k < keys.length; k++) {
            Checks.same(told + k + ")", x.ask(index, low, high, k), keys[k]);
        }
        Checks.same(told + "too many)", x.ask(index, low, high, keys.length), -2);
    }

    private static LateIndexes some() {
        LateIndexes x = new LateIndexes();
        x.set(0, 12);
        x.set(1, 4);
        Tape.define(x, "by a where d<5");
        x.put(4, 9, 1, 0, 0);
        x.put(31, 2, 2, 0, 0);
        x.put(7, 2, 3, 0, 0);
        x.put(0, 5, 4, 0, 5);
        x.put(3, 0, 5, 0, 0);
        x.flush();
        x.put(9, 2, 6, 0, 0);
        x.put(4, 8, 7, 0, 0);
        x.put(12, 1, 8, 0, 0);
        x.remove(12);
        x.flush();
        x.put(31, 15, 9, 0, 0);
        return x;
    }

    private static void ask() {
        LateIndexes x = some();
        keys(x, 0, 0, 15, 3, 7, 9, 4, 31);
        keys(x, 0, 2, 8, 7, 9, 4);
        keys(x, 0, 2, 2, 7, 9);
        keys(x, 0, 5, 5);
        keys(x, 0, 1, 1);
        keys(x, 0, 9, 9);
        keys(x, 0, 8, 2);
    }

    private static void askEdges() {
        LateIndexes x = some();
        keys(x, 0, Integer.MIN_VALUE, Integer.MAX_VALUE, 3, 7, 9, 4, 31);
        keys(x, 0, Integer.MIN_VALUE, -1);
        keys(x, 0, -1, -1);
        keys(x, 0, -1, 0, 3);
        keys(x, 0, 15, Integer.MAX_VALUE, 31);
        keys(x, 0, Integer.MAX_VALUE, Integer.MIN_VALUE);
        Checks.same("k -2", x.ask(0, 0, 15, -2), -2);
        Checks.same("k least", x.ask(0, 0, 15, Integer.MIN_VALUE), -2);
        Checks.same("k greatest", x.ask(0, 0, 15, Integer.MAX_VALUE), -2);
        LateIndexes y = new LateIndexes();
        Tape.define(y, "by 7");
        for (int key = 31; key >= 0; key--) {
            y.put(key, 0, 0, 0, 0);
        }
        Checks.same("all KEYS", y.ask(0, 7, 7, -1), 32);
        Checks.same("the last", y.ask(0, 7, 7, 31), 31);
    }

    private static void askNone() {
        LateIndexes x = some();
        Tape.define(x, "by a");
        int[] none = {1, 2, 4, -1, Integer.MAX_VALUE, Integer.MIN_VALUE};
        for (int index : none) {
            Checks.same("ask " + index, x.ask(index, 0, 15, -1), -2);
        }
        Checks.same("nothing was ASKED", x.cost(0), -1);
        Checks.same("not so many", x.ask(0, 0, 15, 9), -2);
        Checks.same("but ASKED", x.cost(0), 7);
    }

    private static void costs(LateIndexes x, int entries, int stale, int twice, int looks) {
        Checks.same("ENTRIES", x.cost(0), entries);
        Checks.same("STALE", x.cost(1), stale);
        Checks.same("DOUBLE", x.cost(2), twice);
        Checks.same("LOOKS", x.cost(3), looks);
    }

    private static void cost() {
        LateIndexes x = some();
        x.ask(0, 0, 15, -1);
        // MEMORY: 31. Then 9, 4 (no RUN goes TO above 9). Then of 3, 7, 31, 4: 3 and 7 are not in the FILTER of
        // the newer RUN (9, 4, 12), 31 and 4 were found.
        costs(x, 7, 0, 2, 1 + 2 + 2);
        x.ask(0, 9, 15, -1);
        // MEMORY: 31; of the older RUN 4, which the newer one has: STALE.
        costs(x, 2, 1, 0, 1 + 2);
        x.ask(0, 2, 2, 0);
        // 9; then 7, and 31, which MEMORY has.
        costs(x, 3, 1, 0, 1 + 1 + 1);
        x.ask(0, 5, 7, -1);
        costs(x, 0, 0, 0, 0);
        Checks.same("another what", x.cost(4), -1);
        Checks.same("another what", x.cost(-1), -1);
    }

    private static void costOrder() {
        LateIndexes x = new LateIndexes();
        x.set(0, 12);
        x.set(1, 4);
        Tape.define(x, "by a");
        x.put(1, 9, 0, 0, 0);
        x.flush();
        x.put(1, 3, 0, 0, 0);
        x.flush();
        x.put(1, 5, 0, 0, 0);
        x.put(1, 6, 0, 0, 0);
        x.ask(0, 0, 15, -1);
        // In MEMORY 5 is STALE, 6 is found; 3 and 9 are DOUBLE.
        costs(x, 4, 1, 2, 2);
        x.flush();
        x.ask(0, 0, 15, -1);
        costs(x, 3, 0, 2, 1);
        x.ask(0, 0, 5, -1);
        costs(x, 1, 1, 0, 2);
        x.remove(1);
        x.ask(0, 0, 15, -1);
        costs(x, 3, 3, 0, 3);
        x.flush();
        x.ask(0, 0, 15, -1);
        costs(x, 3, 3, 0, 6);
    }

    private static void costStays() {
        LateIndexes x = some();
        for (int what = -1; what < 5; what++) {
            Checks.same("cost " + what, x.cost(what), -1);
        }
        x.sum(0, 0, 15, 0);
        x.near(0, 3);
        x.both(0, 2, 0, 2, -1);
        x.open(0, 0, 15);
        x.index(0, 10);
        Checks.same("nothing was ASKED", x.cost(0), -1);
        x.ask(0, 2, 2, 0);
        x.sum(0, 0, 15, 0);
        x.near(0, 3);
        x.both(0, 2, 0, 9, -1);
        x.open(0, 0, 15);
        x.remove(7);
        x.ask(3, 0, 15, 0);
        x.repair(0);
        costs(x, 3, 1, 0, 3);
        x.drop(0);
        costs(x, 3, 1, 0, 3);
    }

    private static void both() {
        LateIndexes x = new LateIndexes();
        Tape.define(x, "by a");
        Tape.define(x, "by b where c=0");
        x.put(9, 1, 2, 0, 0);
        x.put(3, 1, 2, 0, 0);
        x.put(5, 1, 2, 1, 0);
        x.put(6, 1, 3, 0, 0);
        x.put(7, 2, 2, 0, 0);
        x.put(31, 1, 2, 0, 0);
        x.remove(31);
        Checks.same("both", x.both(0, 1, 1, 2, -1), 2);
        Checks.same("the first", x.both(0, 1, 1, 2, 0), 3);
        Checks.same("the second", x.both(0, 1, 1, 2, 1), 9);
        Checks.same("not so many", x.both(0, 1, 1, 2, 2), -2);
        Checks.same("the other way", x.both(1, 2, 0, 1, 1), 9);
        Checks.same("one twice", x.both(0, 1, 0, 1, -1), 4);
        Checks.same("one twice, two VALUES", x.both(0, 1, 0, 2, -1), 0);
        Checks.same("a VALUE that none has", x.both(0, -1, 1, -1, -1), 0);
    }

    private static void firstAndLast() {
        LateIndexes x = new LateIndexes();
        Tape.define(x, "by a");
        Tape.define(x, "by b");
        x.put(31, 1, 2, 4, 0);
        x.put(0, 1, 2, 3, 0);
        keys(x, 0, 1, 1, 0, 31);
        Checks.same("both", x.both(0, 1, 1, 2, 0), 0);
        Checks.same("both", x.both(0, 1, 1, 2, 1), 31);
        Checks.same("sum", x.sum(0, 1, 1, 2), 7);
        Checks.same("near", x.near(1, 9), 0);
        x.open(0, 1, 1);
        Checks.same("next", x.next(0), 0);
        Checks.same("next", x.next(0), 31);
        x.remove(0);
        Checks.same("near", x.near(1, 9), 31);
    }

    private static void bothNone() {
        LateIndexes x = new LateIndexes();
        Tape.define(x, "by a");
        x.put(1, 0, 0, 0, 0);
        Tape.define(x, "by a");
        int[] none = {1, 2, 4, -1, Integer.MIN_VALUE, Integer.MAX_VALUE};
        for (int index : none) {
            Checks.same("both", x.both(0, 0, index, 0, -1), -2);
            Checks.same("both", x.both(index, 0, 0, 0, -1), -2);
        }
        Checks.same("k", x.both(0, 0, 0, 0, -2), -2);
        Checks.same("k", x.both(0, 0, 0, 0, Integer.MAX_VALUE), -2);
        Checks.same("k", x.both(0, 0, 0, 0, 0), 1);
    }

    private static void sum() {
        LateIndexes x = some();
        Checks.same("a of all", x.sum(0, 0, 15, 0), 0 + 2 + 2 + 8 + 15);
        Checks.same("b of all", x.sum(0, 0, 15, 1), 5 + 3 + 6 + 7 + 9);
        Checks.same("b of some", x.sum(0, 2, 8, 1), 3 + 6 + 7);
        Checks.same("c", x.sum(0, Integer.MIN_VALUE, Integer.MAX_VALUE, 2), 0);
        Checks.same("none", x.sum(0, 8, 2, 1), 0);
        Checks.same("no such COLUMN", x.sum(0, 0, 15, 4), -1);
        Checks.same("no such COLUMN", x.sum(0, 0, 15, -1), -1);
        Tape.define(x, "by a");
        int[] none = {1, 2, 4, -1, Integer.MIN_VALUE, Integer.MAX_VALUE};
        for (int index : none) {
            Checks.same("sum " + index, x.sum(index, 0, 15, 0), -1);
        }
    }

    private static void near() {
        LateIndexes x = some();
        Checks.same("one that has it, the least KEY", x.near(0, 2), 7);
        Checks.same("the nearest", x.near(0, 6), 4);
        Checks.same("of several the lesser VALUE", x.near(0, 5), 7);
        Checks.same("of several the lesser VALUE", x.near(0, 1), 3);
        Checks.same("the nearest", x.near(0, 12), 31);
        Checks.same("the greatest", x.near(0, Integer.MAX_VALUE), 31);
        Checks.same("the least", x.near(0, Integer.MIN_VALUE), 3);
        x.drop(0);
        Checks.same("no such INDEX", x.near(0, 0), -1);
        Tape.define(x, "by a");
        Checks.same("one BUILDING", x.near(0, 0), -1);
        Checks.same("no such INDEX", x.near(4, 0), -1);
        Checks.same("no such INDEX", x.near(-1, 0), -1);
        LateIndexes y = new LateIndexes();
        Tape.define(y, "by 99*a+99*a+99*a+99*a where b=0");
        Checks.same("none", y.near(0, 0), -1);
        y.put(8, 1, 1, 0, 0);
        Checks.same("none", y.near(0, 0), -1);
        y.put(9, 15, 0, 0, 0);
        Checks.same("far", y.near(0, Integer.MIN_VALUE), 9);
        Checks.same("far", y.near(0, Integer.MAX_VALUE), 9);
    }

    private static void open() {
        LateIndexes x = some();
        Checks.same("open", x.open(0, 0, 15), 0);
        Checks.same("open", x.open(0, 9, 3), 1);
        Checks.same("open", x.open(0, 2, 8), 2);
        Checks.same("a fourth", x.open(0, 0, 15), -1);
        Checks.same("CURSORS", x.count(9), 3);
        Checks.same("next of none", x.next(1), -1);
        x.close(1);
        x.next(0);
        x.close(0);
        Checks.same("CURSORS", x.count(9), 1);
        Checks.same("the least that is free", x.open(0, 8, 8), 0);
        Checks.same("next", x.next(0), 4);
        Checks.same("next of another", x.next(2), 7);
        Checks.same("open", x.open(0, 0, 0), 1);
        Checks.same("next", x.next(1), 3);
    }

    private static void openNone() {
        LateIndexes x = some();
        Tape.define(x, "by a");
        int[] none = {1, 2, 4, -1, Integer.MIN_VALUE, Integer.MAX_VALUE};
        for (int index : none) {
            Checks.same("open " + index, x.open(index, 0, 15), -1);
        }
        Checks.same("CURSORS", x.count(9), 0);
        int[] cursors = {0, 3, -1, Integer.MIN_VALUE, Integer.MAX_VALUE};
        for (int cursor : cursors) {
            Checks.same("next " + cursor, x.next(cursor), -1);
            Checks.same("close " + cursor, x.close(cursor), -1);
        }
    }

    private static void next() {
        LateIndexes x = some();
        x.open(0, 2, 15);
        Checks.same("next", x.next(0), 7);
        x.remove(9);
        x.put(4, 0, 0, 0, 0);
        x.put(20, 3, 0, 0, 0);
        x.flush();
        x.merge(-1, 0, 3);
        x.drop(0);
        Checks.same("next", x.next(0), 9);
        Checks.same("next", x.next(0), 4);
        Checks.same("next", x.next(0), 31);
        Checks.same("none is left", x.next(0), -1);
        Checks.same("none is left", x.next(0), -1);
        Checks.same("close", x.close(0), 0);
        Checks.same("no such CURSOR", x.next(0), -1);
    }

    private static void close() {
        LateIndexes x = some();
        x.open(0, 2, 15);
        x.open(0, 0, 15);
        Checks.same("close", x.close(0), 4);
        Checks.same("close again", x.close(0), -1);
        x.next(1);
        x.next(1);
        Checks.same("close of one that went on", x.close(1), 3);
        Checks.same("CURSORS", x.count(9), 0);
        x.open(0, 0, 15);
        Checks.same("one opened in its place starts anew", x.next(0), 3);
        Checks.same("close", x.close(0), 4);
    }

    private static void leftOver() {
        LateIndexes x = some();
        x.set(0, 12);
        x.flush();
        Checks.same("RUNS", x.count(3), 3);
        x.open(0, 0, 15);
        Checks.same("LEFT OVER", x.count(8), 0);
        x.merge(-1, 1, 2);
        Checks.same("two of the TABLE", x.count(8), 2);
        x.merge(0, 0, 3);
        Checks.same("three of the INDEX", x.count(8), 5);
        x.put(1, 1, 0, 0, 0);
        x.flush();
        x.merge(0, 0, 2);
        Checks.same("what came later is not held", x.count(8), 5);
        x.merge(-1, 0, 3);
        Checks.same("the last of the TABLE", x.count(8), 6);
        x.next(0);
        Checks.same("held still", x.count(8), 6);
        x.close(0);
        Checks.same("closed", x.count(8), 0);
        x.set(1, 2);
        x.open(0, 0, 15);
        x.put(2, 1, 0, 0, 0);
        x.flush();
        Checks.same("no MERGE", x.count(8), 0);
        x.put(3, 1, 0, 0, 0);
        x.flush();
        x.put(4, 1, 0, 0, 0);
        x.put(5, 1, 0, 0, 0);
        x.flush();
        x.put(6, 1, 0, 0, 0);
        x.flush();
        Checks.same("MERGES behind FLUSHES", x.count(8), 2);
    }

    private static void leftOverOnce() {
        LateIndexes x = some();
        Tape.define(x, "by b");
        x.flush();
        x.open(0, 0, 15);
        x.open(0, 3, 3);
        x.merge(-1, 0, 2);
        Checks.same("each is counted once", x.count(8), 2);
        x.repair(0);
        Checks.same("all of the INDEX are REPAIRED", x.count(8), 5);
        x.repair(0);
        Checks.same("they were no more already", x.count(8), 5);
        x.close(0);
        x.open(0, 0, 15);
        Checks.same("the new one holds those of now", x.count(8), 5);
        x.repair(0);
        Checks.same("which are REPAIRED", x.count(8), 5 + x.index(0, 3));
        x.close(1);
        Checks.same("LEFT OVER", x.count(8), x.index(0, 3));
        x.drop(1);
        Checks.same("another INDEX", x.count(8), x.index(0, 3));
        x.open(0, 0, 15);
        x.close(0);
        Checks.same("LEFT OVER", x.count(8), 0);
        int runs = x.index(0, 3);
        x.drop(0);
        Checks.same("of an INDEX that is no more", x.count(8), runs);
        x.close(1);
        Checks.same("LEFT OVER", x.count(8), 0);
        Checks.same("some were", runs > 1, true);
    }
}
