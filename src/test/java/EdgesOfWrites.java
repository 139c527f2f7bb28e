/** Promises 8 to 11, 17 and 31: WRITES, what is REFUSED and WHY, LOADS. */
final class EdgesOfWrites {
    private EdgesOfWrites() {
    }

    static void all() {
        puts();
        refused();
        refusedBy();
        changes();
        removes();
        loads();
        rows();
        whys();
    }

    private static void puts() {
        Edges.promise(8, "A put: its STAMP.", """
            put(3, 1, 2, 3, 4) = 1
            put(3, 1, 2, 3, 4) = 2
            put(0|31, 0, 0, 0, 0) = 3 4
            row(3, 0..4) = 1 2 3 4 2
            put(9, 0, 0, 0, 0) = 5
            """);
        Edges.promise(8, "NONE: no such KEY, a number that is none (neither is counted), or it is REFUSED.", """
            put(-1|32|MIN|MAX, 0, 0, 0, 0) = -1
            put(0, -1|16|MIN|MAX, 0, 0, 0) = -1
            put(0, 0, -1|16|MIN|MAX, 0, 0) = -1
            put(0, 0, 0, -1|16|MIN|MAX, 0) = -1
            put(0, 0, 0, 0, -1|16|MIN|MAX) = -1
            count(0..2|11) = 0
            why(0, 0) = -1
            define by a unique = 0
            put(1, 3, 0, 0, 0) = 1
            put(2, 3, 0, 0, 0) = -1
            count(0|11) = 1 1
            put(32, 3, 0, 0, 0) = -1
            put(2, 3, 16, 0, 0) = -1
            count(0|11) = 1 1
            """);
        Edges.terms(2, 8, "if there were as many WRITES since the last FLUSH, or more, behind a WRITE, there is a "
            + "FLUSH.", """
            put(1..3, 0, 0, 0, 0)
            count(1|3) = 3 0
            put(4, 0, 0, 0, 0) = 4
            count(1|3) = 0 1
            new
            put(7, 0, 0, 0, 0)
            remove(7)
            put(7, 0, 0, 0, 0)
            count(2|3) = 1 0
            change(7, 0, 1) = 4
            count(2|3) = 0 1
            run(0, 0|2|3) = 1 1 4
            new
            set(0, 12) = 1
            put(1..5, 0, 0, 0, 0)
            set(0, 2) = 1
            change(9, 0, 0) = -1
            put(1, 16, 0, 0, 0) = -1
            count(1|3) = 5 0
            remove(1) = 6
            count(1|3) = 0 1
            """);
        Edges.terms(2, 8, "A put of a ROW: its VERSION comes into MEMORY; into the MEMORY of each INDEX that WANTS the "
            + "ROW an ENTRY comes, of its VALUE, KEY, STAMP; nothing else is done (what ENTRIES there are of that KEY "
            + "stay).", """
            calm
            define by a+b where a<9 = 0
            define by b = 1
            put(3, 2, 5, 0, 0) = 1
            define by c = 2
            entry(0, NONE, 0, 0..2) = 7 3 1
            entry(1, NONE, 0, 0..2) = 5 3 1
            index(2, 0|4) = 1 0
            put(3, 9, 5, 6, 0) = 2
            index(0..2, 4) = 1 2 1
            entry(1, NONE, 0..1, 2) = 1 2
            entry(2, NONE, 0, 0..2) = 6 3 2
            put(3, 9, 5, 6, 0) = 3
            index(0..2, 4) = 1 3 2
            count(2) = 1
            flush() = 1
            put(3, 1, 1, 1, 1) = 4
            index(1, 20) = 1
            index(1, 4|5) = 2 1
            """);
        Edges.terms(1, 8, "The TABLE has a MEMORY: of WRITES since the last FLUSH the latest VERSION of each KEY;", """
            calm
            count(2) = 0
            put(5, 1, 0, 0, 0)
            put(5, 2, 0, 0, 0)
            put(6, 3, 0, 0, 0)
            remove(6)
            count(1|2) = 4 2
            row(5, 0) = 2
            row(6, 0|4) = -1 4
            flush() = 1
            count(1|2) = 0 0
            run(0, 0) = 2
            """);
    }

    private static void refused() {
        String told = "A put is REFUSED, if a BUILT INDEX that is UNIQUE WANTS the ROW, and another KEY that IS THERE "
            + "has the VALUE in it and is WANTED:";
        Edges.terms(2, 8, told, """
            calm
            define by a where b=0 unique = 0
            put(1, 3, 0, 0, 0) = 1
            put(0|2|31, 3, 0, 0, 0) = -1
            count(11) = 3
            flush() = 1
            put(0|2|31, 3, 0, 0, 0) = -1
            put(2, 4, 0, 0, 0) = 2
            """);
        Edges.terms(2, 8, "a BUILT INDEX", """
            calm
            put(1, 3, 0, 0, 0) = 1
            define by a unique = 0
            put(2, 3, 0, 0, 0) = 2
            build(0, 31) = 1
            put(3, 3, 0, 0, 0) = 3
            put(2, 4, 0, 0, 0) = 4
            put(3, 5, 0, 0, 0) = 5
            build(0, 1) = 0
            put(2, 3, 0, 0, 0) = -1
            """);
        Edges.terms(2, 8, "that is UNIQUE", """
            define by a = 0
            put(1..2, 3, 0, 0, 0) = 1 2
            drop(0) = 1
            put(3, 3, 0, 0, 0) = 3
            new
            define by a unique = 0
            put(1..2, 3, 0, 0, 0) = 1 -1
            drop(0) = 1
            put(2, 3, 0, 0, 0) = 2
            """);
        Edges.terms(2, 8, "WANTS the ROW", """
            define by a where b<1 unique = 0
            put(1, 3, 0, 0, 0) = 1
            put(2, 3, 1, 0, 0) = 2
            put(2, 3, 0, 0, 0) = -1
            """);
        Edges.terms(2, 8, "another KEY", """
            calm
            define by a unique = 0
            put(0, 3, 0, 0, 0) = 1
            put(0, 3, 0, 0, 0) = 2
            flush() = 1
            put(0, 3, 1, 0, 0) = 3
            change(0, 0, 3) = 4
            put(31, 3, 0, 0, 0) = -1
            put(31, 4, 0, 0, 0) = 5
            put(31, 4, 0, 0, 0) = 6
            put(0, 4, 0, 0, 0) = -1
            """);
        Edges.terms(2, 8, "that IS THERE", """
            calm
            define by a unique = 0
            put(1, 3, 0, 0, 0) = 1
            remove(1) = 2
            put(2, 3, 0, 0, 0) = 3
            flush() = 1
            remove(2) = 4
            flush() = 1
            put(1, 3, 0, 0, 0) = 5
            put(2, 3, 0, 0, 0) = -1
            """);
        Edges.terms(2, 8, "has the VALUE in it", """
            calm
            define by a unique = 0
            put(1, 3, 0, 0, 0) = 1
            put(2|3, 2|4, 0, 0, 0) = 2 3 4 -1
            put(5, 3, 0, 0, 0) = -1
            put(1, 5, 0, 0, 0) = 5
            put(5, 3, 0, 0, 0) = 6
            flush() = 1
            put(5, 6, 0, 0, 0) = 7
            put(6, 3, 0, 0, 0) = 8
            """);
        Edges.terms(2, 8, "and is WANTED", """
            calm
            define by a where b=0 unique = 0
            put(1, 3, 1, 0, 0) = 1
            put(2, 3, 0, 0, 0) = 2
            put(1, 3, 0, 0, 0) = -1
            put(2, 3, 2, 0, 0) = 3
            put(1, 3, 0, 0, 0) = 4
            """);
    }

    private static void refusedBy() {
        Edges.terms(2, 31, "the first such INDEX is told in WHY.", """
            calm
            define by a = 0
            define by a where c<5 unique = 1
            define by 16+b unique = 2
            define by a unique = 3
            put(8, 1, 1, 0, 0) = 1
            put(7, 2, 2, 5, 0) = 2
            put(9, 1, 2, 0, 0) = -1
            why(1, 0..1) = 1 1
            why(2, 0..1) = 8 1
            put(9, 1, 2, 5, 0) = -1
            why(1, 0..1) = 2 18
            why(2, 0..1) = 7 2
            put(9, 2, 3, 0, 0) = -1
            why(1, 0..1) = 3 2
            why(2, 0..1) = 7 2
            """);
        Edges.terms(2, 8, "(By what is REFUSED nothing happens, but that it is counted, and WHY.)", """
            calm
            define by b = 0
            define by a unique = 1
            put(3, 7, 0, 0, 0) = 1
            put(4, 8, 0, 0, 0) = 2
            put(5, 9, 0, 0, 0) = 3
            set(0, 2) = 1
            put(4, 7, 0, 0, 0) = -1
            change(4, 0, 9) = -1
            change(6, 0, 9) = -1
            count(0..3|11) = 3 3 3 0 3
            index(0..1, 4) = 3
            row(4, 0|4) = 8 2
            row(6, 4) = -1
            why(0, 0..1) = 1 6
            put(6, 1, 0, 0, 0) = 4
            count(3) = 1
            """);
    }

    private static void changes() {
        Edges.promise(9, "The ROW of a KEY with one COLUMN changed (to the same, too) is put: its STAMP.", """
            calm
            define by a unique = 0
            put(3, 1, 2, 3, 4) = 1
            change(3, 0, 1) = 2
            row(3, 0..4) = 1 2 3 4 2
            change(3, 0..3, 15) = 3 4 5 6
            row(3, 0..3) = 15
            change(3, 1, 0) = 7
            row(3, 0..3) = 15 0 15 15
            index(0, 4) = 7
            flush() = 1
            change(3, 2, 8) = 8
            row(3, 0..4) = 15 0 8 15 8
            """);
        Edges.promise(9, "NONE: no such KEY, COLUMN, number (none is counted), or it is REFUSED, also if the KEY isn't "
            + "THERE.", """
            calm
            define by a unique = 0
            put(3, 1, 2, 3, 4) = 1
            change(-1|32|MIN|MAX, 0, 0) = -1
            change(3, -1|4|MIN|MAX, 0) = -1
            change(3, 0..3, -1|16|MIN|MAX) = -1
            change(9, 4, 0) = -1
            change(9, 0, 16) = -1
            count(0|11) = 1 0
            why(0, 0) = -1
            row(3, 0..4) = 1 2 3 4 1
            change(9, 0, 5) = -1
            count(0|11) = 1 1
            why(0, 0..1) = 1 9
            put(4, 6, 0, 0, 0) = 2
            change(4, 0, 1) = -1
            count(11) = 2
            remove(4) = 3
            change(4, 1, 1) = -1
            flush() = 1
            change(4, 1, 1) = -1
            count(0|11) = 3 4
            row(4, 0|4) = -1 3
            """);
    }

    private static void removes() {
        Edges.promise(10, "A remove: its STAMP.", """
            remove(0|31) = 1 2
            put(0, 1, 1, 1, 1) = 3
            remove(0) = 4
            remove(0) = 5
            row(0, 4) = 5
            """);
        Edges.promise(10, "NONE: no such KEY.", """
            remove(-1|32|MIN|MAX) = -1
            count(0..2|11) = 0
            flush() = 0
            """);
        Edges.terms(2, 10, "A remove: GONE comes into MEMORY, whatever was there; no ENTRY.", """
            calm
            define by a unique = 0
            define by 1 = 1
            remove(5) = 1
            count(2) = 1
            row(5, 0|4) = -1 1
            index(0..1, 4) = 0
            remove(5) = 2
            put(5, 0, 0, 0, 0) = 3
            put(6, 1, 0, 0, 0) = 4
            remove(5) = 5
            index(0..1, 4) = 2
            index(0..1, 5) = 1
            count(2|5|11) = 2 1 0
            flush() = 1
            count(6) = 1
            remove(5) = 6
            count(2|6) = 1 1
            """);
    }

    private static void loads() {
        Edges.promise(11, "LOAD, n times, 1 .. 20: how many were REFUSED.", """
            calm
            load(1, 1) = 0
            count(0) = 1
            load(-1, 3) = 2
            count(0|11) = 2 2
            load(-1, 1) = 1
            count(11) = 3
            new
            load(1, 20) = 1
            count(0|11) = 19 1
            load(-1, 20) = 3
            count(0|11) = 36 4
            """);
        Edges.promise(11, "NONE, and nothing happens: another n.", """
            load(1|-1, 0|21|-1|MIN|MAX) = -1
            count(0|1|11) = 0
            why(0, 0) = -1
            """);
        Edges.terms(4, 11, "LOAD by a SEED, x; a number below n is drawn: x becomes x * 1103515245 + 12345 (of 32 bits), "
            + "it is x shifted right by 16 without sign, remainder by n:", """
            calm
            load(1, 3) = 0
            row(30, 0..4) = 1 11 11 11 1
            row(27, 0..4) = 4 6 13 15 2
            row(28, 0..4) = 1 7 1 15 3
            load(-2, 2) = 0
            row(22, 0..4) = 8 8 8 6 4
            row(2, 0..4) = 6 1 5 6 5
            load(MIN, 2) = 0
            row(28, 0|4) = -1 6
            row(5, 0..4) = 10 15 13 13 7
            load(MAX, 3) = 1
            row(2, 0..4) = 15 1 5 6 8
            row(30, 0|4) = -1 9
            """);
        Edges.terms(4, 11, "so many times: a number below 8, a KEY, a number below 32: 0: remove; 1: change of a COLUMN, "
            + "a number below 4, to a number below 16 (REFUSED, if there is no ROW); else: put of four numbers below 16.",
            """
            calm
            load(0, 1) = 0
            row(28, 0|4) = -1 1
            load(4, 2) = 1
            why(0, 0..1) = 1 6
            row(6, 4) = -1
            row(16, 0..4) = 2 5 2 11 2
            put(6, 1, 2, 3, 4) = 3
            load(4, 1) = 0
            row(6, 0..4) = 1 2 3 15 4
            load(51, 1) = 1
            put(0, 9, 9, 9, 9) = 5
            load(51, 1) = 0
            row(0, 0..4) = 0 9 9 9 6
            load(75, 1) = 1
            why(0, 1) = 31
            load(26, 1) = 0
            row(31, 0..4) = 9 14 11 0 7
            load(75, 1) = 0
            row(31, 0..4) = 9 14 12 0 8
            """);
    }

    private static void rows() {
        Edges.promise(17, "Of LATEST of a KEY, what 0 .. 3: a COLUMN, 4: the STAMP.", """
            calm
            put(31, 15, 0, 7, 8) = 1
            row(31, 0..4) = 15 0 7 8 1
            put(0, 0, 15, 1, 2) = 2
            row(0, 0..4) = 0 15 1 2 2
            """);
        Edges.promise(17, "NONE: there is none (of 0 .. 3: or it is GONE), no such KEY, another what.", """
            calm
            row(3, 0..4) = -1
            put(3, 1, 2, 3, 4) = 1
            row(3, -1|5|MIN|MAX) = -1
            row(-1|32|MIN|MAX, 0..4) = -1
            row(2|4, 0..4) = -1
            remove(3) = 2
            row(3, 0..4) = -1 -1 -1 -1 2
            flush() = 1
            row(3, 0..4) = -1 -1 -1 -1 2
            lay 5 5
            merge(NONE, 0, 2) = 1
            row(3, 0..4) = -1
            """);
        Edges.terms(1, 17, "LATEST of a KEY: its VERSION in MEMORY, else in the newest RUN that has one, or none. A KEY "
            + "IS THERE, if LATEST is a ROW.", """
            calm
            define by a = 0
            row(5, 4) = -1
            lay 5 1
            lay 5 2
            lay 6 3
            row(5, 0|4) = 2 2
            put(5, 4, 0, 0, 0) = 4
            row(5, 0|4) = 4 4
            count(5) = 2
            remove(5) = 5
            row(5, 0|4) = -1 5
            count(5) = 1
            flush() = 1
            row(5, 4) = 5
            count(5) = 1
            change(5, 0, 0) = -1
            """);
    }

    private static void whys() {
        Edges.promise(31, "WHY: level 0: which (what 0), the KEY (1); 1: the INDEX (0), the VALUE (1); 2: the other KEY "
            + "(0), the STAMP (1).", """
            calm
            define by d = 0
            define by a+b unique = 1
            put(30, 1, 2, 0, 0) = 1
            put(0, 5, 6, 0, 0) = 2
            put(30, 2, 1, 0, 0) = 3
            put(0, 3, 0, 0, 0) = -1
            why(0, 0..1) = 0 0
            why(1, 0..1) = 1 3
            why(2, 0..1) = 30 3
            change(30, 0, 10) = -1
            why(0, 0..1) = 1 30
            why(1, 0..1) = 1 11
            why(2, 0..1) = 0 2
            put(30, 0, 0, 0, 0) = 4
            remove(0) = 5
            why(2, 0..1) = 0 2
            """);
        Edges.promise(31, "NONE: nothing was REFUSED, there is no such level, what.", """
            why(0..2, 0..1) = -1
            define by a unique = 0
            put(1..2, 0, 0, 0, 0) = 1 -1
            why(0, 0..1) = 0 2
            why(1, 0..1) = 0 0
            why(2, 0..1) = 1 1
            why(-1|3|MIN|MAX, 0..1) = -1
            why(0..2, -1|2|MIN|MAX) = -1
            """);
        Edges.terms(3, 31, "WHY, of what was REFUSED last: 0 which: 0 put, 1 change (0, 1: also of load), 2 build (that "
            + "CLASHED), and its KEY", """
            calm
            define by 7 where a>5 unique = 0
            put(9, 8, 1, 1, 1) = 1
            put(31, 9, 1, 1, 1) = -1
            why(0, 0..1) = 0 31
            load(-1, 1) = 1
            why(0, 0..1) = 1 25
            load(7, 1) = 0
            load(-2, 1) = 1
            why(0, 0..1) = 0 22
            why(1, 0..1) = 0 7
            why(2, 0..1) = 9 1
            put(10, 1, 0, 0, 0)
            define by b where a=8 or = -1
            define by 3 unique = 1
            build(1, 32) = -2
            why(0, 0..1) = 2 10
            why(1, 0..1) = 1 3
            why(2, 0..1) = 9 1
            """);
        Edges.terms(3, 31, "by what (not of a change without a ROW): 1 the INDEX, the VALUE; 2 the other KEY", """
            define by 0 unique = 0
            put(8, 1, 1, 0, 0) = 1
            put(9, 1, 1, 0, 0) = -1
            why(1, 0..1) = 0 0
            why(2, 0..1) = 8 1
            change(31, 0, 0) = -1
            why(0, 0..1) = 1 31
            why(1..2, 0..1) = -1
            put(9, 1, 1, 0, 0) = -1
            why(1, 0..1) = 0 0
            remove(9) = 2
            change(9, 0, 0) = -1
            why(1..2, 0..1) = -1
            """);
        Edges.terms(3, 31, "(of build: the least one), the STAMP of its LATEST.", """
            calm
            put(30, 9, 0, 0, 0) = 1
            put(5, 9, 0, 0, 0) = 2
            put(29|9|8, 7, 0, 0, 0) = 3 4 5
            put(0|1, 1, 1, 0, 0) = 6 7
            put(8, 7, 0, 0, 1) = 8
            define by a where b=0 unique = 0
            build(0, 32) = -2
            why(2, 0..1) = 8 8
            """);
        Edges.terms(3, 31, "(of build: the second least one of the least VALUE that two have);", """
            calm
            put(30, 9, 0, 0, 0) = 1
            put(5, 9, 0, 0, 0) = 2
            put(29|9|8, 7, 0, 0, 0) = 3 4 5
            put(0, 1, 0, 0, 0) = 6
            put(1|2, 1, 1, 0, 0) = 7 8
            define by a where b=0 unique = 0
            build(0, 32) = -2
            why(0, 0..1) = 2 9
            why(1, 0..1) = 0 7
            why(2, 0..1) = 8 5
            """);
    }
}
