/** Promises 1 to 7 and 30: a new object, the tape, texts and their FAULTS, what is set. */
final class TextTests {
    private TextTests() {
    }

    static void all() {
        Checks.test("promise 1: a new object has nothing", TextTests::newObject);
        Checks.test("promise 1: ROOM is 4 and FAN is 2 at first", TextTests::newRoomAndFan);
        Checks.test("promise 2: feed, the highest byte first", TextTests::feedBytes);
        Checks.test("promise 2: feed, the tape full", TextTests::feedFull);
        Checks.test("promise 3: end", TextTests::end);
        Checks.test("promise 4: define gives the least free number, a fifth none", TextTests::define);
        Checks.test("promise 4: define takes the tape, whatever comes of it", TextTests::defineEmpties);
        Checks.test("promise 4: an INDEX is BUILDING if there was a WRITE", TextTests::defineBuilding);
        Checks.test("promise 5: texts without a FAULT", TextTests::goodTexts);
        Checks.test("promise 5: FAULT 1 and its place", TextTests::faultsOne);
        Checks.test("promise 5: FAULT 2 and its place", TextTests::faultsTwo);
        Checks.test("promise 5: fault is of the latest define alone", TextTests::latestFault);
        Checks.test("promise 6: set, and what it takes", TextTests::set);
        Checks.test("promise 6: a lesser ROOM flushes behind the next WRITE", TextTests::setRoom);
        Checks.test("promise 6: FAN", TextTests::setFan);
        Checks.test("promise 7: mend", TextTests::mend);
        Checks.test("promise 30: value, by SUMS", TextTests::values);
        Checks.test("promise 30: value, by ATOMS", TextTests::wanted);
        Checks.test("promise 30: value of what is none", TextTests::valueNone);
    }

    private static void newObject() {
        LateIndexes x = new LateIndexes();
        for (int what = 0; what <= 14; what++) {
            Checks.same("count " + what, x.count(what), what == 7 ? -1 : 0);
        }
        for (int i = 0; i < 4; i++) {
            Checks.same("index", x.index(i, 0), -2);
            Checks.same("again", x.again(i), false);
            Checks.same("next", x.next(i), -1);
            Checks.same("close", x.close(i), -1);
            Checks.same("cost", x.cost(i), -1);
            Checks.same("why", x.why(i, 0), -1);
        }
        Checks.same("row", x.row(0, 4), -1);
        Checks.same("run", x.run(0, 0), -1);
        Checks.same("fault", x.fault(0), 0);
        Checks.same("fault", x.fault(1), -1);
        Checks.same("NONE", LateIndexes.NONE, -1);
    }

    private static void newRoomAndFan() {
        LateIndexes x = new LateIndexes();
        for (int i = 0; i < 3; i++) {
            x.put(i, 0, 0, 0, 0);
        }
        Checks.same("RUNS behind 3 WRITES", x.count(3), 0);
        x.remove(9);
        Checks.same("RUNS behind 4 WRITES", x.count(3), 1);
        Checks.same("LEVEL", x.run(0, 1), 0);
        x.put(1, 1, 1, 1, 1);
        x.flush();
        Checks.same("RUNS behind two FLUSHES", x.count(3), 1);
        Checks.same("LEVEL behind two FLUSHES", x.run(0, 1), 1);
    }

    private static void feedBytes() {
        LateIndexes x = new LateIndexes();
        Checks.same("feed", x.feed(0x6279206a, 0x20202020, 0x20202020, 0x20202020, 0x2020202b), 20);
        Checks.same("end", x.end(3), 3);
        Checks.same("feed", x.feed(0x61202020, 0x200a0a0a, 0x202b2020, 0x2b202020, 0x20203362), 23);
        Checks.same("define", x.define(), -1);
        Checks.same("place", x.fault(1), 15);
        x.feed(0x6279200a, 0x3132202a, 0x20610a2b, 0x20642b37, 0x2b622020);
        Checks.same("define", x.define(), 0);
        Checks.same("value", x.value(0, 2, 3, 5, 11), 12 * 2 + 11 + 7 + 3);
        Checks.same("feed", x.feed(-1, -1, -1, -1, -1), 20);
        Checks.same("define", x.define(), -1);
        Checks.same("place", x.fault(1), 0);
    }

    private static void feedFull() {
        LateIndexes x = new LateIndexes();
        for (int i = 1; i <= 10; i++) {
            Checks.same("feed", x.feed(0x20202020, 0x20202020, 0x20202020, 0x20202020, 0x20202020), 20 * i);
        }
        Checks.same("an 11th feed", x.feed(0, 0, 0, 0, 0), -1);
        Checks.same("bytes", x.count(14), 200);
        x.end(181);
        Checks.same("feed to 201", x.feed(0, 0, 0, 0, 0), -1);
        Checks.same("bytes", x.count(14), 181);
        x.end(180);
        Checks.same("feed to 200", x.feed(0x62792063, 0x20202020, 0x20202020, 0x20202020, 0x20202020), 200);
        Checks.same("define", x.define(), 0);
        Checks.same("value", x.value(0, 1, 2, 3, 4), 3);
    }

    private static void end() {
        LateIndexes x = new LateIndexes();
        Checks.same("end 0 of none", x.end(0), 0);
        Checks.same("end 1 of none", x.end(1), -1);
        x.feed(0x62792061, 0x2b622b63, 0x2b640000, 0, 0);
        Checks.same("end 21", x.end(21), -1);
        Checks.same("end below 0", x.end(-1), -1);
        Checks.same("end least", x.end(Integer.MIN_VALUE), -1);
        Checks.same("end greatest", x.end(Integer.MAX_VALUE), -1);
        Checks.same("bytes", x.count(14), 20);
        Checks.same("end 20", x.end(20), 20);
        Checks.same("end 8", x.end(8), 8);
        Checks.same("bytes", x.count(14), 8);
        Checks.same("end 9 of 8", x.end(9), -1);
        Checks.same("define", x.define(), 0);
        Checks.same("value", x.value(0, 1, 2, 4, 8), 7);
    }

    private static void define() {
        LateIndexes x = new LateIndexes();
        for (int i = 0; i < 4; i++) {
            Checks.same("define", Tape.define(x, "by " + (char) ('a' + i)), i);
        }
        Checks.same("a fifth", Tape.define(x, "by !"), -2);
        Checks.same("bytes", x.count(14), 0);
        Checks.same("fault", x.fault(0), 0);
        Checks.same("place", x.fault(1), -1);
        Checks.same("drop", x.drop(1), true);
        Checks.same("drop", x.drop(2), true);
        Checks.same("the others' numbers", x.value(3, 1, 2, 3, 4), 4);
        Checks.same("define", Tape.define(x, "by 9*a unique"), 1);
        Checks.same("value", x.value(1, 1, 2, 3, 4), 9);
        Checks.same("unique", x.index(1, 1), 1);
        Checks.same("define", Tape.define(x, "by b mends"), 2);
        Checks.same("mends", x.index(2, 2), 1);
        Checks.same("unique", x.index(2, 1), 0);
        Checks.same("bits", x.count(10), 15);
    }

    private static void defineEmpties() {
        LateIndexes x = new LateIndexes();
        Checks.same("define", Tape.define(x, "by a"), 0);
        Checks.same("bytes", x.count(14), 0);
        Checks.same("define", Tape.define(x, "by a +"), -1);
        Checks.same("bytes", x.count(14), 0);
        Checks.same("define of none", x.define(), -1);
        Checks.same("INDEXES", x.count(10), 1);
    }

    private static void defineBuilding() {
        LateIndexes x = new LateIndexes();
        Tape.define(x, "by a");
        Checks.same("BUILT", x.index(0, 0), 2);
        x.remove(7);
        Tape.define(x, "by a");
        Checks.same("BUILT", x.index(0, 0), 2);
        Checks.same("BUILDING", x.index(1, 0), 1);
        Checks.same("BEGUN", x.index(1, 8), 1);
        Checks.same("KEYS to go", x.index(1, 7), 32);
    }

    private static void text(String text, int fault, int place) {
        LateIndexes x = new LateIndexes();
        Checks.same("define \"" + text + "\"", Tape.define(x, text), fault == 0 ? 0 : -1);
        Checks.same("fault of \"" + text + "\"", x.fault(0), fault);
        Checks.same("place of \"" + text + "\"", x.fault(1), place);
    }

    private static void goodTexts() {
        String[] texts = {"by a", "by 1", "by 99", "by 00", "by 2*a", "by 2 * a", "by 2*a+3", "by a+b+c+d",
            "\nby\na\n", "  by   a  ", "by 1+2*b+3+4*d", "by a unique", "by a mends", "by a unique mends",
            "by a where a<1", "by a where a=1 unique", "by a where a>1 and b<2 and c=3 unique mends",
            "by 1+1+1+1 where a+b+c+d<1+2+3+4 mends", "by a+b where 7>3*d", "by 1where 2<3and 4=4mends",
            "by 99*a+99*b+99*c+99*d where 99*a+99*b+99*c+99*d<99*a+99*b+99*c+99*d and "
            + "99*a+99*b+99*c+99*d=99*a+99*b+99*c+99*d and 99*a+99*b+99*c+99*d>99*a+99*b+99*c+99*d unique mends"};
        for (String text : texts) {
            text(text, 0, -1);
        }
    }

    private static void faultsOne() {
        text("", 1, 0);
        text("   ", 1, 3);
        text("\n", 1, 1);
        text("b", 1, 0);
        text("by", 1, 2);
        text("by ", 1, 3);
        text("bya", 1, 0);
        text("a by a", 1, 0);
        text("by by", 1, 3);
        text("by ab", 1, 3);
        text("by e", 1, 3);
        text("by 100", 1, 3);
        text("by 007*a", 1, 3);
        text("by 2*2", 1, 5);
        text("by 2*", 1, 5);
        text("by a*2", 1, 4);
        text("by a+", 1, 5);
        text("by a++b", 1, 5);
        text("by a b", 1, 5);
        text("by a 1", 1, 5);
        text("by 12a", 1, 5);
        text("by a1", 1, 4);
        text("by a<1", 1, 4);
        text("by a and b<1", 1, 5);
        text("by a-b", 1, 4);
        text("by a\tb", 1, 4);
        text("by A", 1, 3);
        text("BY a", 1, 0);
        text("by a\u00e9", 1, 4);
        text("by a\u0000", 1, 4);
        text("by a where", 1, 10);
        text("by a where ", 1, 11);
        text("by a where a", 1, 12);
        text("by a where a unique", 1, 13);
        text("by a where a<", 1, 13);
        text("by a where a<=1", 1, 13);
        text("by a where a<1<2", 1, 14);
        text("by a where a<1 and", 1, 18);
        text("by a where a<1 and unique", 1, 19);
        text("by a where a<1 where b<2", 1, 15);
        text("by a where where", 1, 11);
        text("by a mends unique", 1, 11);
        text("by a unique unique", 1, 12);
        text("by a mends mends", 1, 11);
        text("by a unique where a<1", 1, 12);
        text("by a uniqued", 1, 5);
        text("by a mend", 1, 5);
        text("by a $ 100", 1, 5);
        text("by az", 1, 3);
        text("by za", 1, 3);
        text("ty a", 1, 0);
        text("by a xhere a<1", 1, 5);
        text("by a where a<1 xnd b<1", 1, 15);
        text("by a xnique", 1, 5);
        text("by a xends", 1, 5);
        text("by a where a;1", 1, 12);
        text("by a/2", 1, 4);
        text("by a:2", 1, 4);
        text("by a`", 1, 4);
        text("by a{", 1, 4);
    }

    private static void faultsTwo() {
        text("by a+b+c+d+a", 2, 11);
        text("by 1+2+3+4+5", 2, 11);
        text("by 1+2+3+4+ 5*", 2, 12);
        text("by 1+2+3+4+5*a+$", 2, 11);
        text("by 1+2+3+4+", 1, 11);
        text("by 1+2+3+4+100", 1, 11);
        text("by 1+2+3+4+e", 1, 11);
        text("by 1+2+3+4+*", 1, 11);
        text("by a where a+b+c+d+a<1", 2, 19);
        text("by a where 1<a+b+c+d+9", 2, 21);
        text("by a where 1<a+b+c+d+", 1, 21);
        String three = "by a where a<1 and b<1 and c<1";
        text(three, 0, -1);
        text(three + " and d", 2, 35);
        text(three + " and 7", 2, 35);
        text(three + " and", 1, 34);
        text(three + " and <", 1, 35);
        text(three + " and where", 1, 35);
        text(three + " and 123", 1, 35);
    }

    private static void latestFault() {
        LateIndexes x = new LateIndexes();
        Tape.define(x, "by a+b+c+d+a");
        Checks.same("fault", x.fault(0), 2);
        Checks.same("fault 2", x.fault(2), -1);
        Checks.same("fault -1", x.fault(-1), -1);
        Tape.put(x, "by q");
        Checks.same("place, the tape being fed", x.fault(1), 11);
        x.define();
        Checks.same("fault", x.fault(0), 1);
        Checks.same("place", x.fault(1), 3);
        Tape.define(x, "by a");
        Checks.same("fault", x.fault(0), 0);
        Checks.same("place", x.fault(1), -1);
        x.define();
        for (int i = 1; i < 4; i++) {
            Tape.define(x, "by a");
        }
        Tape.define(x, "by");
        Checks.same("fault of a fifth", x.fault(0), 0);
        Checks.same("place of a fifth", x.fault(1), -1);
    }

    private static void set() {
        LateIndexes x = new LateIndexes();
        for (int number = -1; number < 15; number++) {
            Checks.same("set 0 " + number, x.set(0, number), number >= 2 && number <= 12);
            Checks.same("set 1 " + number, x.set(1, number), number >= 2 && number <= 4);
        }
        Checks.same("set 2", x.set(2, 3), false);
        Checks.same("set -1", x.set(-1, 3), false);
        Checks.same("set least", x.set(0, Integer.MIN_VALUE), false);
        for (int i = 0; i < 11; i++) {
            x.put(i, 0, 0, 0, 0);
        }
        Checks.same("RUNS, ROOM being 12 still", x.count(3), 0);
        x.put(11, 0, 0, 0, 0);
        Checks.same("RUNS", x.count(3), 1);
    }

    private static void setRoom() {
        LateIndexes x = new LateIndexes();
        x.set(0, 12);
        for (int i = 0; i < 6; i++) {
            x.put(i, 0, 0, 0, 0);
        }
        x.set(0, 2);
        Checks.same("WRITES", x.count(1), 6);
        x.remove(0);
        Checks.same("WRITES", x.count(1), 0);
        Checks.same("VERSIONS", x.run(0, 0), 6);
        x.remove(0);
        Checks.same("WRITES", x.count(1), 1);
        x.remove(0);
        Checks.same("WRITES", x.count(1), 0);
    }

    private static void setFan() {
        for (int fan = 2; fan <= 4; fan++) {
            LateIndexes x = new LateIndexes();
            x.set(0, 2);
            x.set(1, fan);
            for (int i = 0; i < 2 * (fan - 1); i++) {
                x.put(i, 0, 0, 0, 0);
            }
            Checks.same("RUNS, one less than FAN", x.count(3), fan - 1);
            x.put(30, 0, 0, 0, 0);
            x.put(31, 0, 0, 0, 0);
            Checks.same("RUNS", x.count(3), 1);
            Checks.same("VERSIONS", x.count(4), 2 * fan);
        }
    }

    private static void mend() {
        LateIndexes x = new LateIndexes();
        Tape.define(x, "by a");
        Tape.define(x, "by a mends");
        Checks.same("mend 2", x.mend(2, true), false);
        Checks.same("mend -1", x.mend(-1, true), false);
        Checks.same("mend 4", x.mend(4, true), false);
        Checks.same("mends", x.index(0, 2), 0);
        Checks.same("mends", x.index(1, 2), 1);
        Checks.same("mend", x.mend(0, true), true);
        Checks.same("mend", x.mend(1, false), true);
        Checks.same("mends", x.index(0, 2), 1);
        Checks.same("mends", x.index(1, 2), 0);
        x.put(1, 1, 0, 0, 0);
        x.flush();
        x.put(1, 2, 0, 0, 0);
        x.flush();
        Checks.same("ENTRIES of what mends", x.index(0, 4), 1);
        Checks.same("its REPAIRED", x.index(0, 100), 2);
        Checks.same("ENTRIES of what does not", x.index(1, 4), 2);
        Checks.same("its REPAIRED", x.index(1, 100), 1);
        Tape.define(x, "by a");
        Checks.same("mend one BUILDING", x.mend(2, true), true);
        Checks.same("mends", x.index(2, 2), 1);
    }

    private static void values() {
        LateIndexes x = new LateIndexes();
        Tape.define(x, "by 7");
        Tape.define(x, "by a+2*b+10*c+99*d");
        Tape.define(x, "by a+a+3*a+5");
        Checks.same("value", x.value(0, 1, 2, 3, 4), 7);
        Checks.same("value", x.value(1, 1, 2, 3, 4), 1 + 4 + 30 + 396);
        Checks.same("value", x.value(1, 15, 15, 15, 15), 15 * 112);
        Checks.same("value", x.value(1, 0, 0, 0, 0), 0);
        Checks.same("value", x.value(2, 3, 9, 9, 9), 20);
        Tape.define(x, "by 99*d+99*d+99*d+99*d");
        Checks.same("the greatest", x.value(3, 0, 0, 0, 15), 5940);
    }

    private static void wanted() {
        LateIndexes x = new LateIndexes();
        Tape.define(x, "by a where b+1<2*c");
        Tape.define(x, "by a where b>c+d and 5=a");
        Tape.define(x, "by 0*a where a<9 and b<9 and c<9");
        Checks.same("value", x.value(0, 6, 1, 1, 0), -1);
        Checks.same("value", x.value(0, 6, 0, 1, 0), 6);
        Checks.same("value", x.value(1, 5, 4, 2, 2), -1);
        Checks.same("value", x.value(1, 5, 5, 2, 2), 5);
        Checks.same("value", x.value(1, 4, 5, 2, 2), -1);
        Checks.same("value", x.value(2, 8, 8, 8, 15), 0);
        Checks.same("value", x.value(2, 9, 8, 8, 15), -1);
        Checks.same("value", x.value(2, 8, 9, 8, 15), -1);
        Checks.same("value", x.value(2, 8, 8, 9, 15), -1);
    }

    private static void valueNone() {
        LateIndexes x = new LateIndexes();
        Tape.define(x, "by a");
        Checks.same("value 1", x.value(1, 0, 0, 0, 0), -1);
        Checks.same("value -1", x.value(-1, 0, 0, 0, 0), -1);
        Checks.same("value 4", x.value(4, 0, 0, 0, 0), -1);
        Checks.same("a 16", x.value(0, 16, 0, 0, 0), -1);
        Checks.same("b -1", x.value(0, 0, -1, 0, 0), -1);
        Checks.same("c 16", x.value(0, 0, 0, 16, 0), -1);
        Checks.same("d least", x.value(0, 0, 0, 0, Integer.MIN_VALUE), -1);
        x.remove(0);
        Tape.define(x, "by b");
        Checks.same("one BUILDING", x.value(1, 0, 9, 0, 0), 9);
    }
}
