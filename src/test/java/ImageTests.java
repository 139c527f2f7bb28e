import java.util.ArrayList;
import java.util.List;

/** Promises 34 to 36: what would be, and what was. */
final class ImageTests {
    private ImageTests() {
    }

    static void all() {
        Checks.test("promise 34: tried answers what a load leaves", ImageTests::tried);
        Checks.test("promise 34: nothing of it stays", ImageTests::triedStays);
        Checks.test("promise 34: tried of what is none", ImageTests::triedNone);
        Checks.test("promises 35, 36: all that is", ImageTests::all36);
        Checks.test("promises 35, 36: the tape, the FAULT, WHY, builds that CLASHED", ImageTests::small);
        Checks.test("promises 35, 36: CURSORS and what they HOLD", ImageTests::cursors);
        Checks.test("promises 35, 36: three images, each as it was made last", ImageTests::three);
        Checks.test("promises 35, 36: no such image", ImageTests::none);
        Checks.test("promises 35, 36: images stay, and are not changed by what comes later", ImageTests::imagesStay);
    }

    static LateIndexes busy() {
        LateIndexes x = new LateIndexes();
        x.set(0, 3);
        Tape.define(x, "by a+b");
        Tape.define(x, "by 16*a+b unique");
        Tape.define(x, "by c where a<9 mends");
        x.load(5, 20);
        x.load(6, 20);
        Tape.define(x, "by d");
        x.build(3, 7);
        x.open(0, 0, 20);
        x.next(0);
        x.load(7, 20);
        x.open(2, 3, 9);
        x.ask(0, 5, 12, 1);
        Tape.define(x, "by a where");
        Tape.put(x, "by c");
        x.change(31, 0, x.row(31, 0) < 0 ? 0 : 16);
        return x;
    }

    /** All that can be told of an object without a change. */
    static List<Integer> told(LateIndexes x) {
        List<Integer> all = new ArrayList<>();
        for (int what = 0; what < 15; what++) {
            all.add(x.count(what));
            all.add(x.cost(what));
            all.add(x.fault(what));
        }
        for (int key = 0; key < 32; key++) {
            for (int what = 0; what < 5; what++) {
                all.add(x.row(key, what));
            }
            all.add(x.held(key));
        }
        for (int i = 0; i < 6; i++) {
            all.add(x.why(i / 2, i % 2));
        }
        for (int run = 0; run < 20; run++) {
            for (int what = 0; what < 42; what++) {
                all.add(x.run(run, what));
            }
        }
        for (int index = 0; index < 4; index++) {
            for (int what = 0; what < 120; what++) {
                all.add(x.index(index, what));
            }
            for (int i = 0; i < 100; i++) {
                for (int what = 0; what < 5; what++) {
                    all.add(x.entry(index, i % 5 - 1, i / 5, what));
                }
            }
            all.add(x.value(index, 1, 2, 3, 4));
        }
        return all;
    }

    private static void tried() {
        LateIndexes x = busy();
        for (int seed = 100; seed < 112; seed++) {
            int n = 1 + (seed * 7) % 20;
            int[] due = new int[40];
            LateIndexes y = busy();
            y.load(seed, n);
            for (int what = 0; what < 40; what++) {
                int index = what % 10;
                boolean isOfIndex = what >= 20 && index < 4;
                due[what] = what < 14 ? y.count(what) : isOfIndex ? y.index(index, what < 30 ? 4 : 6) : -1;
            }
            for (int what = 0; what < 40; what++) {
                Checks.same("tried " + seed + " " + n + " " + what, x.tried(seed, n, what), due[what]);
            }
        }
    }

    private static void triedStays() {
        LateIndexes x = busy();
        List<Integer> before = told(x);
        for (int what = 0; what < 34; what++) {
            x.tried(what, 20, what);
        }
        Checks.same("all is as it was", told(x).equals(before), true);
        int stamp = x.count(0);
        Checks.same("STAMP", x.tried(9, 1, 0) + x.tried(9, 1, 11), stamp + x.count(11) + 1);
        int answer = x.tried(9, 20, 0);
        x.load(9, 20);
        Checks.same("STAMP", x.count(0), answer);
    }

    private static void triedNone() {
        LateIndexes x = busy();
        x.drop(1);
        int[] none = {0, -1, 21, Integer.MAX_VALUE, Integer.MIN_VALUE};
        for (int n : none) {
            Checks.same("n " + n, x.tried(1, n, 0), -1);
            Checks.same("n " + n, x.tried(1, n, 20), -1);
        }
        int[] whats = {-1, 14, 19, 21, 24, 29, 31, 34, 40, Integer.MAX_VALUE, Integer.MIN_VALUE,
            Integer.MIN_VALUE + 20, Integer.MIN_VALUE + 30};
        for (int what : whats) {
            Checks.same("what " + what, x.tried(1, 5, what), -1);
        }
        Checks.same("ENTRIES of another", x.tried(1, 5, 20) >= 0, true);
        Checks.same("WASTE of another", x.tried(1, 5, 32) >= 0, true);
    }

    private static void all36() {
        LateIndexes x = busy();
        List<Integer> before = told(x);
        Checks.same("image", x.image(1), true);
        Checks.same("all is as it was", told(x).equals(before), true);
        x.next(0);
        x.close(1);
        x.set(0, 9);
        x.set(1, 4);
        x.mend(0, true);
        x.drop(2);
        x.build(3, 32);
        x.repair(1);
        x.define();
        x.define();
        x.ask(0, 0, 3, 0);
        x.put(31, 1, 1, 1, 1);
        x.flush();
        x.merge(0, 0, 2);
        x.change(30, 0, x.row(30, 0) < 0 ? 0 : 16);
        x.load(99, 20);
        Checks.same("all is another", told(x).equals(before), false);
        Checks.same("again", x.again(1), true);
        Checks.same("all is as the image has it", told(x).equals(before), true);
        LateIndexes y = busy();
        for (int seed = 1; seed < 6; seed++) {
            Checks.same("load", x.load(seed, 20), y.load(seed, 20));
            Checks.same("next", x.next(0), y.next(0));
            Checks.same("next", x.next(1), y.next(1));
        }
        Checks.same("define", x.define(), y.define());
        Checks.same("build", x.build(3, 32), y.build(3, 32));
        Checks.same("close", x.close(1), y.close(1));
        Checks.same("all goes on as it would have", told(x).equals(told(y)), true);
    }

    private static void small() {
        LateIndexes x = new LateIndexes();
        x.put(1, 1, 0, 0, 0);
        x.put(2, 1, 0, 0, 0);
        Tape.define(x, "by 1 unique");
        x.build(0, 32);
        Tape.define(x, "by a+b+c+d+a");
        Tape.put(x, "by 7*d");
        x.set(0, 3);
        x.set(1, 3);
        x.image(0);
        x.end(0);
        Tape.put(x, "by 3+3+3+3");
        x.define();
        x.change(9, 9, 9);
        x.change(9, 0, 0);
        Tape.define(x, "by 1 unique");
        x.build(1, 32);
        x.set(0, 12);
        x.set(1, 2);
        x.ask(0, 0, 9, -1);
        Checks.same("again", x.again(0), true);
        Checks.same("FAULT", x.fault(0), 2);
        Checks.same("place", x.fault(1), 11);
        Checks.same("builds that CLASHED", x.count(12), 1);
        Checks.same("REFUSED", x.count(11), 0);
        int[] why = {2, 2, 0, 1, 1, 1};
        for (int i = 0; i < why.length; i++) {
            Checks.same("why", x.why(i / 2, i % 2), why[i]);
        }
        Checks.same("nothing was ASKED", x.cost(0), -1);
        Checks.same("bytes", x.count(14), 6);
        Checks.same("define", x.define(), 0);
        Checks.same("value", x.value(0, 1, 2, 3, 4), 28);
        x.put(3, 1, 0, 0, 0);
        Checks.same("ROOM is 3", x.count(3), 1);
        x.remove(4);
        x.flush();
        Checks.same("FAN is 3", x.count(3), 2);
    }

    private static void cursors() {
        LateIndexes x = new LateIndexes();
        x.set(1, 4);
        Tape.define(x, "by a");
        for (int key = 0; key < 3; key++) {
            x.put(key, 9 - key, 0, 0, 0);
            x.flush();
        }
        x.open(0, 0, 8);
        Checks.same("next", x.next(0), 2);
        x.image(2);
        x.close(0);
        x.merge(-1, 0, 2);
        x.repair(0);
        x.open(0, 9, 9);
        x.open(0, 0, 9);
        Checks.same("LEFT OVER", x.count(8), 0);
        Checks.same("again", x.again(2), true);
        Checks.same("CURSORS", x.count(9), 1);
        Checks.same("LEFT OVER", x.count(8), 0);
        Checks.same("next", x.next(0), 1);
        Checks.same("none is left", x.next(0), -1);
        x.merge(-1, 0, 2);
        Checks.same("LEFT OVER", x.count(8), 2);
        x.repair(0);
        Checks.same("LEFT OVER", x.count(8), 5);
    }

    private static void three() {
        LateIndexes x = new LateIndexes();
        for (int k = 0; k < 3; k++) {
            x.put(k, k, 0, 0, 0);
            Checks.same("image", x.image(k), true);
        }
        for (int k = 2; k >= 0; k--) {
            Checks.same("again", x.again(k), true);
            Checks.same("STAMP", x.count(0), k + 1);
            Checks.same("KEYS", x.count(5), k + 1);
        }
        x.remove(9);
        x.image(2);
        Checks.same("again", x.again(1), true);
        Checks.same("STAMP", x.count(0), 2);
        Checks.same("again", x.again(2), true);
        Checks.same("GONE", x.row(9, 4), 2);
        Checks.same("KEYS", x.count(5), 1);
    }

    private static void none() {
        LateIndexes x = new LateIndexes();
        int[] none = {-1, 3, Integer.MAX_VALUE, Integer.MIN_VALUE};
        for (int k : none) {
            Checks.same("image " + k, x.image(k), false);
            Checks.same("again " + k, x.again(k), false);
        }
        x.put(1, 1, 1, 1, 1);
        x.image(1);
        Checks.same("again 0", x.again(0), false);
        Checks.same("again 2", x.again(2), false);
        Checks.same("STAMP", x.count(0), 1);
        Checks.same("again 1", x.again(1), true);
    }

    private static void imagesStay() {
        LateIndexes x = new LateIndexes();
        x.image(0);
        x.put(1, 1, 1, 1, 1);
        x.image(1);
        Checks.same("again 0", x.again(0), true);
        Checks.same("image 1 is still there", x.again(1), true);
        Checks.same("STAMP", x.count(0), 1);
        x.put(1, 2, 2, 2, 2);
        x.flush();
        Checks.same("again 1", x.again(1), true);
        Checks.same("row", x.row(1, 0), 1);
        Checks.same("RUNS", x.count(3), 0);
    }
}
