/** Promises 15, 16, 28 and 29: builds, what CLASHES, drops, what an INDEX and its ENTRIES tell. */
final class EdgesOfIndexes {
    private EdgesOfIndexes() {
    }

    static void all() {
        builds();
        built();
        clashes();
        drops();
        told();
        toldOfBuilding();
        values();
        worst();
        entries();
        looks();
    }

    private static void builds() {
        Edges.promise(15, "A build of n KEYS, 1 .. 32, or as many as are left: how many are left.", """
            put(0..31, 1, 0, 0, 0)
            define by a = 0
            build(0, 1) = 31
            build(0, 30) = 1
            index(0, 7|9) = 1 31
            build(0, 32) = 0
            index(0, 7|9|4) = 0 0 32
            define by b = 1
            build(1, 32) = 0
            define by b = 2
            build(2, 31) = 1
            build(2, 2) = 0
            """);
        Edges.promise(15, "-2: it CLASHED.", """
            put(0|31, 1, 0, 0, 0) = 1 2
            define by a unique = 0
            build(0, 31) = 1
            build(0, 1) = -2
            count(12) = 1
            build(0, 1) = -1
            """);
        Edges.promise(15, "NONE: there is none such, it is BUILT, another n.", """
            define by a = 0
            build(0, 1|32) = -1
            build(-1|1|4|MIN|MAX, 1) = -1
            put(1, 1, 0, 0, 0) = 1
            define by a = 1
            build(1, 0|33|-1|MIN|MAX) = -1
            index(1, 0|7|9) = 1 32 0
            build(1, 32) = 0
            build(1, 1|32) = -1
            index(1, 4) = 1
            drop(1) = 1
            build(1, 1) = -1
            """);
        Edges.terms(2, 15, "A build of so many KEYS: it goes along KEYS, from where it was (0 first): of each that IS THERE "
            + "and is WANTED an ENTRY (VALUE, KEY, STAMP of LATEST) is kept aside.", """
            calm
            put(0, 5, 0, 0, 0) = 1
            put(1, 6, 0, 0, 0) = 2
            put(1, 7, 0, 0, 0) = 3
            put(2, 1, 0, 0, 0) = 4
            put(31, 8, 0, 0, 0) = 5
            put(3, 9, 0, 0, 0) = 6
            remove(3) = 7
            define by a where a>1 = 0
            index(0, 9) = 0
            build(0, 1) = 31
            index(0, 9|4) = 1 0
            build(0, 1) = 30
            index(0, 9) = 2
            build(0, 29) = 1
            index(0, 9) = 2
            put(0, 15, 0, 0, 0) = 8
            put(31, 14, 0, 0, 0) = 9
            build(0, 1) = 0
            index(0, 3|20) = 1 3
            entry(0, 0, 0, 0..3) = 5 0 1 1
            entry(0, 0, 1, 0..3) = 7 1 3 0
            entry(0, 0, 2, 0..3) = 14 31 9 0
            index(0, 4) = 5
            """);
    }

    private static void built() {
        Edges.terms(2, 15, "Behind KEY 31: what is kept aside becomes the oldest RUN (if there is any), of a LEVEL 1 more "
            + "than the greatest one there is (0 without), REPAIRED is BEGUN; the INDEX is BUILT;", """
            calm
            put(1, 1, 0, 0, 0) = 1
            define by a = 0
            define by a = 1
            define by a where a>1 = 2
            put(2, 0, 0, 0, 0) = 2
            build(0, 31) = 1
            index(0, 0|3) = 1 0
            build(0, 1) = 0
            index(0, 0|3|20|60|100) = 2 1 2 0 1
            lay 2 2
            lay 3 3
            lay 4 4
            merge(1, 1, 2) = 2
            index(1, 60..61) = 0 1
            lay 5 5
            build(1, 32) = 0
            index(1, 3|20|21|22|23) = 4 1 1 2 5
            index(1, 60..63) = 0 0 1 2
            index(1, 103) = 1
            build(2, 1) = 31
            index(2, 3|20|60) = 1 4 1
            remove(5)
            build(2, 31) = 0
            index(2, 0|3|21|61|101) = 2 2 3 2 1
            """);
        Edges.terms(2, 15, "(if there is any), of a LEVEL 1 more than the greatest one there is (0 without)", """
            calm
            put(1, 1, 0, 0, 0) = 1
            define by a where a>7 = 0
            define by a = 1
            build(0, 32) = 0
            index(0, 0|3|4|8) = 2 0 0 -1
            build(1, 32) = 0
            index(1, 3|60) = 1 0
            new
            calm
            remove(1)
            define by a = 0
            lay 1 1
            lay 2 2
            build(0, 32) = 0
            index(0, 3) = 3
            index(0, 60..62) = 0 0 1
            """);
        Edges.terms(2, 15, "REPAIRED is BEGUN;", """
            calm
            put(1..3, 1, 0, 0, 0)
            define by a = 0
            put(4..6, 1, 0, 0, 0)
            build(0, 31) = 1
            put(7, 1, 0, 0, 0) = 7
            build(0, 1) = 0
            index(0, 8|100) = 3
            """);
    }

    private static void clashes() {
        Edges.terms(2, 15, "but if it is UNIQUE, and two KEYS that ARE THERE have one VALUE in it, both WANTED: it CLASHES, "
            + "and is no more.", """
            calm
            put(3|9, 4, 0, 0, 0) = 1 2
            define by b = 0
            define by a unique = 1
            build(1, 32) = -2
            index(1, 0) = -2
            count(10|11|12) = 1 0 1
            define by c = 1
            index(1, 0|7|9) = 1 32 0
            """);
        Edges.terms(2, 15, "if it is UNIQUE,", """
            put(3|9, 4, 0, 0, 0) = 1 2
            define by a = 0
            build(0, 32) = 0
            count(12) = 0
            ask(0, 4, 4, NONE) = 2
            """);
        Edges.terms(2, 15, "two KEYS that ARE THERE have one VALUE in it, both WANTED:", """
            calm
            put(3|9, 4, 0, 0, 0) = 1 2
            define by a unique = 0
            remove(9) = 3
            build(0, 32) = 0
            put(9, 4, 1, 0, 0) = -1
            define by a where b=0 unique = 1
            put(9, 5, 1, 0, 0) = 4
            put(10, 5, 0, 0, 0) = -1
            drop(0) = 1
            put(10, 5, 0, 0, 0) = 5
            build(1, 32) = 0
            define by a unique = 0
            build(0, 16) = 16
            put(9, 6, 0, 0, 0) = 6
            build(0, 16) = 0
            define by b unique = 2
            build(2, 32) = -2
            count(12) = 1
            why(0, 0..1) = 2 9
            """);
        Edges.terms(2, 15, "and two KEYS that ARE THERE have one VALUE", """
            calm
            put(3, 4, 0, 0, 0) = 1
            define by a unique = 0
            build(0, 31) = 1
            put(9, 4, 0, 0, 0) = 2
            index(0, 9) = 1
            build(0, 1) = -2
            why(0, 1) = 9
            why(2, 0..1) = 3 1
            """);
        Edges.terms(2, 15, "it CLASHES, and is no more. (An INDEX that is no more: the others keep their numbers;", """
            calm
            put(3|9, 4, 0, 0, 0) = 1 2
            define by a unique = 0
            define by b = 1
            lay 20 1
            define by c = 2
            remove(4) = 4
            held(4) = 0
            count(7) = 2
            build(0, 32) = -2
            held(4) = 1
            drop(1) = 1
            held(4) = 2
            count(7) = 3
            index(0..2, 0) = -2 -2 1
            ask(0, 0, 99, NONE) = -2
            merge(0, 0, 2) = -1
            """);
    }

    private static void drops() {
        Edges.promise(16, "An INDEX is no more: true.", """
            calm
            define by a = 0
            define by b = 1
            lay 1 2
            put(2, 3, 4, 0, 0) = 2
            define by c = 2
            drop(0) = 1
            count(10) = 6
            index(0, 0|4) = -2
            ask(0, 0, 99, NONE) = -2
            ask(1, 0, 99, NONE) = 2
            drop(2) = 1
            count(10) = 2
            define by d = 0
            index(0, 0|3|4|8|9) = 1 0 0 2 0
            flush() = 1
            index(0, 3) = 0
            """);
        Edges.promise(16, "False: there is none such.", """
            drop(-1|0|4|MIN|MAX) = 0
            define by a = 0
            drop(-1|1|4|MIN|MAX) = 0
            count(10) = 1
            drop(0) = 1
            drop(0) = 0
            count(10) = 0
            """);
    }

    private static void told() {
        Edges.promise(28, "Of an INDEX, what 0: 1 BUILDING, 2 BUILT, 1: 1 if it is UNIQUE, else 0, 2: 1 if it MENDS, else 0, "
            + "3: RUNS, 4: ENTRIES, 5: STALE ones, 6: WASTE, 7: KEYS that it has still to go along (0 if BUILT), 8: the "
            + "least of REPAIRED of its RUNS, and BEGUN, if it is BUILDING (NONE: neither), 9: how many are kept aside, "
            + "10: UNUSED, 11: CROWDED (NONE: none), 12: how many", """
            calm
            define by a unique mends = 0
            index(0, 0..13) = 2 1 1 0 0 0 0 0 -1 0 0 -1 0 -1
            put(1, 5, 0, 0, 0) = 1
            index(0, 0..13) = 2 1 1 0 1 0 0 0 -1 0 0 5 1 -1
            put(2, 0, 0, 0, 0) = 2
            flush() = 1
            put(1, 6, 0, 0, 0) = 3
            put(3, 5, 0, 0, 0) = 4
            flush() = 1
            merge(0, 0, 2) = 1
            remove(3) = 5
            put(4, 9, 0, 0, 0) = 6
            flush() = 1
            put(4, 8, 0, 0, 0) = 7
            index(0, 0..13) = 2 1 1 2 5 2 2 0 4 0 1 0 1 0
            mend(0, 0) = 1
            drop(0) = 1
            define by b = 0
            index(0, 0..2) = 1 0 0
            """);
        Edges.promise(28, "13: WORST (NONE), 20 + r: ENTRIES of a RUN, 60 + r: its LEVEL, 100 + r: REPAIRED.", """
            twenty
            define by a = 0
            index(0, 13|20|60|100) = -1 -2 -2 -2
            lay 1 1
            lay 1 2
            lay 1 2
            merge(0, 1, 2) = 2
            index(0, 13) = 1
            index(0, 20..21) = 1 2
            index(0, 60..61) = 0 1
            index(0, 100..101) = 32 30
            index(0, 22|62|102) = -2
            """);
        Edges.promise(28, "-2: there is none such (of either), or for another what.", """
            calm
            index(-1|0|4|MIN|MAX, 0..13|20|60|100) = -2
            define by a = 0
            index(0, 20|60|100) = -2
            lay 1 1
            index(0, -1|14..19|21..59|61..99|101..140|MIN|MAX) = -2
            index(0, 20|60|100) = 1 0 1
            index(-1|1|4|MIN|MAX, 0..13|20|60|100) = -2
            drop(0) = 1
            index(0, 0..13|20|60|100) = -2
            new
            define by a = 0
            twenty
            put(30, 0, 0, 0, 0)
            index(0, 3) = 20
            index(0, 39|40|59) = 1 -2 -2
            index(0, 79|80|99) = 0 -2 -2
            index(0, 119|120|139) = 1 -2 -2
            """);
        Edges.terms(1, 28, "ENTRIES are of a VALUE, a KEY, a STAMP. It has a MEMORY, too, and RUNS of ENTRIES, of its own, "
            + "the newest one first, each with a LEVEL and REPAIRED (a STAMP).", """
            calm
            define by a = 0
            define by a where a>1 = 1
            lay 1 1
            lay 2 2
            put(3, 3, 0, 0, 0) = 3
            index(0..1, 3|4) = 2 3 1 2
            entry(0, 0..1, 0, 0) = 2 1
            entry(0, 0..1, 0, 1) = 2 1
            entry(0, 0..1, 0, 2) = 2 1
            index(0, 60..61) = 0
            index(0, 100..101) = 2 1
            entry(1, 0, 0, 0..2) = 2 2 2
            entry(0..1, NONE, 0, 0) = 3
            """);
    }

    private static void toldOfBuilding() {
        Edges.promise(28, "(10 to 12: -2, if it is BUILDING)", """
            calm
            put(1..2, 5, 0, 0, 0)
            define by a = 0
            build(0, 2) = 30
            lay 3 5
            put(3, 6, 0, 0, 0) = 4
            index(0, 0..13) = 1 0 0 1 2 1 1 30 2 1 -2 -2 -2 0
            build(0, 30) = 0
            index(0, 10..12) = 0 5 2
            """);
        Edges.terms(1, 28, "It is BUILDING, or BUILT.", """
            define by a = 0
            remove(1)
            define by a = 1
            index(0..1, 0) = 2 1
            build(1, 31) = 1
            index(1, 0) = 1
            build(1, 1) = 0
            index(1, 0) = 2
            """);
        Edges.terms(4, 28, "WASTE: of all ENTRIES of an INDEX those that are STALE or have another one of the same VALUE, KEY, "
            + "STAMP ahead of them (in MEMORY, in a newer RUN).", """
            calm
            put(0, 5, 0, 0, 0) = 1
            define by a = 0
            put(1, 5, 0, 0, 0) = 2
            put(4, 5, 0, 0, 0) = 3
            flush() = 1
            put(2..3, 5, 0, 0, 0) = 4 5
            build(0, 32) = 0
            index(0, 4..6) = 9 0 4
            remove(1) = 6
            index(0, 4..6) = 9 2 5
            put(2, 5, 0, 0, 0) = 7
            index(0, 4..6) = 10 4 6
            put(2, 5, 0, 0, 0) = 8
            index(0, 4..6) = 11 5 7
            merge(0, 0, 2) = 1
            index(0, 4..6) = 9 4 5
            repair(0) = 2
            index(0, 4..6) = 7 2 3
            new
            calm
            put(1, 5, 0, 0, 0) = 1
            define by a = 0
            put(0, 3, 0, 0, 0) = 2
            build(0, 32) = 0
            index(0, 4..6) = 3 0 1
            put(1, 5, 0, 0, 0) = 3
            index(0, 4..6) = 4 1 2
            """);
    }

    private static void values() {
        Edges.terms(4, 28, "UNUSED of a BUILT INDEX: the least VALUE, 0 on, that nothing ASKED has.", """
            calm
            define by a where b=0 = 0
            index(0, 10) = 0
            put(1, 1, 0, 0, 0)
            index(0, 10) = 0
            put(2, 0, 0, 0, 0)
            index(0, 10) = 2
            put(3, 2, 1, 0, 0)
            put(4, 3, 0, 0, 0)
            index(0, 10) = 2
            put(3, 2, 0, 0, 0)
            index(0, 10) = 4
            remove(1)
            index(0, 10) = 1
            new
            define by 2*a+b = 0
            put(0, 0, 0, 0, 0); put(1, 1, 0, 0, 0); put(2, 2, 0, 0, 0); put(3, 3, 0, 0, 0)
            put(4, 4, 0, 0, 0); put(5, 5, 0, 0, 0); put(6, 6, 0, 0, 0); put(7, 7, 0, 0, 0)
            put(8, 8, 0, 0, 0); put(9, 9, 0, 0, 0); put(10, 10, 0, 0, 0); put(11, 11, 0, 0, 0)
            put(12, 12, 0, 0, 0); put(13, 13, 0, 0, 0); put(14, 14, 0, 0, 0); put(15, 15, 0, 0, 0)
            index(0, 10) = 1
            put(16, 0, 1, 0, 0); put(17, 1, 1, 0, 0); put(18, 2, 1, 0, 0); put(19, 3, 1, 0, 0)
            put(20, 4, 1, 0, 0); put(21, 5, 1, 0, 0); put(22, 6, 1, 0, 0); put(23, 7, 1, 0, 0)
            put(24, 8, 1, 0, 0); put(25, 9, 1, 0, 0); put(26, 10, 1, 0, 0); put(27, 11, 1, 0, 0)
            put(28, 12, 1, 0, 0); put(29, 13, 1, 0, 0); put(30, 14, 1, 0, 0)
            index(0, 10) = 31
            put(31, 15, 1, 0, 0)
            index(0, 10) = 32
            """);
        Edges.terms(4, 28, "CROWDED: the VALUE that most KEYS that are ASKED have, of several the least; how many.", """
            calm
            define by a where b=0 = 0
            index(0, 11..12) = -1 0
            put(0, 6, 0, 0, 0)
            index(0, 11..12) = 6 1
            put(31, 6, 0, 0, 0)
            index(0, 11..12) = 6 2
            remove(0|31)
            flush() = 1
            put(1, 4, 0, 0, 0)
            index(0, 11..12) = 4 1
            put(2, 2, 0, 0, 0)
            put(3, 3, 0, 0, 0)
            index(0, 11..12) = 2 1
            put(4..5, 3, 0, 0, 0)
            put(6..9, 4, 1, 0, 0)
            index(0, 11..12) = 3 3
            put(10..11, 2, 0, 0, 0)
            flush() = 1
            index(0, 11..12) = 2 3
            remove(11)
            index(0, 11..12) = 3 3
            remove(0..31)
            index(0, 11..12) = -1 0
            """);
    }

    private static void worst() {
        Edges.terms(4, 28, "WORST: the RUN of an INDEX that has most STALE ENTRIES, of several the newest (none: none has any).",
            """
            calm
            define by a = 0
            index(0, 13) = -1
            put(1..3, 1, 0, 0, 0)
            flush() = 1
            put(4..6, 1, 0, 0, 0)
            flush() = 1
            put(7..9, 1, 0, 0, 0)
            flush() = 1
            index(0, 13) = -1
            put(10, 1, 0, 0, 0)
            put(10, 1, 0, 0, 0)
            index(0, 5|13) = 1 -1
            remove(1)
            index(0, 13) = 2
            remove(4)
            index(0, 13) = 1
            remove(2)
            index(0, 13) = 2
            remove(7..8)
            index(0, 13) = 0
            """);
    }

    private static void entries() {
        Edges.promise(29, "Of the i-th ENTRY of a RUN of an INDEX (NONE: of its MEMORY), what 0: VALUE, 1: KEY, 2: STAMP, 3: 1 "
            + "if it is STALE, else 0, 4: LOOKS.", """
            calm
            define by a = 0
            put(31, 15, 0, 0, 0) = 1
            put(0, 0, 0, 0, 0) = 2
            entry(0, NONE, 0, 0..4) = 0 0 2 0 1
            entry(0, NONE, 1, 0..4) = 15 31 1 0 1
            flush() = 1
            put(31, 15, 1, 0, 0) = 3
            entry(0, 0, 0, 0..4) = 0 0 2 0 1
            entry(0, 0, 1, 0..4) = 15 31 1 1 1
            entry(0, NONE, 0, 0..4) = 15 31 3 0 1
            lay 5 5
            entry(0, 0, 0, 0..4) = 5 5 4 0 1
            entry(0, 1, 1, 0..4) = 15 31 1 1 2
            remove(1)
            define by b = 1
            lay 9 9
            entry(1, 0, 0, 0..4) = 0 9 6 0 1
            """);
        Edges.promise(29, "-2: there is none such (of any), or for another what.", """
            calm
            entry(0, NONE..0, 0, 0) = -2
            define by a = 0
            entry(0, NONE..0, 0, 0) = -2
            lay 1 1
            entry(0, NONE, 0, 0) = -2
            put(2..3, 1, 0, 0, 0)
            entry(0, NONE, 1, 1) = 3
            entry(0, 0, 0, 1) = 1
            entry(-1|1|4|MIN|MAX, NONE..0, 0, 0) = -2
            entry(0, -2|1|20|MIN|MAX, 0, 0) = -2
            entry(0, 0, -1|1|MIN|MAX, 0) = -2
            entry(0, NONE, -1|2|MIN|MAX, 0) = -2
            entry(0, NONE..0, 0, -1|5|MIN|MAX) = -2
            drop(0) = 1
            entry(0, NONE..0, 0, 0) = -2
            new
            calm
            define by a = 0
            lay 1 1
            put(2, 2, 0, 0, 0)
            put(3, 3, 0, 0, 0)
            flush() = 1
            put(1|3, 9, 0, 0, 0)
            repair(0) = 2
            entry(0, 0, 0..1, 0) = 2 -2
            entry(0, 1, 0, 0) = -2
            flush() = 1
            entry(0, NONE, 0, 0) = -2
            """);
        Edges.terms(1, 29, "ENTRIES stand by VALUE, then by KEY, then by STAMP.", """
            calm
            define by a = 0
            put(2, 5, 0, 0, 0) = 1
            put(1, 5, 0, 0, 0) = 2
            put(9, 3, 0, 0, 0) = 3
            put(1, 5, 0, 0, 0) = 4
            put(31, 4, 0, 0, 0) = 5
            put(0, 15, 0, 0, 0) = 6
            entry(0, NONE, 0..5, 0) = 3 4 5 5 5 15
            entry(0, NONE, 0..5, 1) = 9 31 1 1 2 0
            entry(0, NONE, 0..5, 2) = 3 5 2 4 1 6
            flush() = 1
            put(0, 4, 0, 0, 0) = 7
            put(3, 5, 0, 0, 0) = 8
            flush() = 1
            merge(0, 0, 2) = 1
            entry(0, 0, 0..6, 0) = 3 4 4 5 5 5 15
            entry(0, 0, 0..6, 1) = 9 0 31 1 2 3 0
            new
            calm
            define by a = 0
            lay 1 1
            lay 2 9
            merge(0, 0, 2) = 1
            entry(0, 0, 0..1, 0) = 1 9
            lay 3 0
            merge(0, 0, 2) = 1
            entry(0, 0, 0..2, 0) = 0 1 9
            """);
    }

    private static void looks() {
        Edges.terms(3, 29, "LOOKS at an ENTRY of a RUN: MEMORY of the TABLE is looked into, then its RUNS, the newest one "
            + "first, those alone that go TO a STAMP above REPAIRED and have the KEY, modulo 8, in the FILTER, up to the "
            + "first that has a VERSION of the KEY: how many were looked into (MEMORY is one).", """
            calm
            define by a where b=0 = 0
            put(1, 1, 0, 0, 0) = 1
            put(2, 2, 0, 0, 0) = 2
            flush() = 1
            entry(0, 0, 0..1, 4) = 1
            put(9, 1, 1, 0, 0) = 3
            flush() = 1
            entry(0, 0, 0..1, 4) = 2 1
            put(1, 1, 1, 0, 0) = 4
            flush() = 1
            entry(0, 0, 0..1, 4) = 2 1
            put(17, 1, 1, 0, 0) = 5
            entry(0, 0, 0..1, 4) = 2 1
            put(2, 2, 1, 0, 0) = 6
            entry(0, 0, 0..1, 4) = 2 1
            repair(0) = 2
            """);
        Edges.terms(3, 29, "those alone that go TO a STAMP above REPAIRED", """
            calm
            define by a where b=0 = 0
            lay 1 1
            lay 9 2
            lay 17 3
            entry(0, 0..2, 0, 4) = 1 2 3
            repair(0) = 0
            entry(0, 0..2, 0, 4) = 1
            merge(NONE, 0, 2) = 2
            entry(0, 0..2, 0, 4) = 1
            put(25, 1, 1, 0, 0) = 4
            flush() = 1
            entry(0, 0..2, 0, 4) = 2
            merge(NONE, 0, 3) = 1
            entry(0, 0..2, 0, 4) = 2
            """);
        Edges.terms(3, 29, "MEMORY of the TABLE is looked into, then its RUNS, the newest one first,", """
            calm
            define by a = 0
            lay 1 1
            lay 9 1
            lay 17 1
            entry(0, 2, 0, 4) = 3
            merge(NONE, 0, 2) = 2
            entry(0, 2, 0, 4) = 2
            entry(0, 1, 0, 4) = 2
            merge(NONE, 0, 2) = 1
            entry(0, 0..2, 0, 4) = 1 2 2
            """);
        Edges.terms(3, 29, "and have the KEY, modulo 8, in the FILTER, up to the first that has a VERSION of the KEY:", """
            calm
            define by a where b=0 = 0
            put(1|31, 1, 0, 0, 0) = 1 2
            flush() = 1
            put(7|2, 1, 1, 0, 0) = 3 4
            flush() = 1
            remove(1) = 5
            flush() = 1
            entry(0, 0, 0..1, 4) = 2 2
            put(9|15, 1, 1, 0, 0) = 6 7
            entry(0, 0, 0..1, 4) = 2 2
            put(1, 1, 1, 0, 0) = 8
            entry(0, 0, 0..1, 4) = 1 2
            """);
        Edges.terms(3, 29, "At an ENTRY of MEMORY: MEMORY of the TABLE alone, 1.", """
            calm
            define by a = 0
            lay 1 1
            lay 9 1
            put(1, 1, 0, 0, 0) = 3
            put(17, 2, 0, 0, 0) = 4
            put(17, 3, 0, 0, 0) = 5
            entry(0, NONE, 0..2, 4) = 1
            entry(0, 1, 0, 4) = 1
            put(2, 16, 0, 0, 0) = -1
            entry(0, 0, 0, 4) = 1
            """);
    }
}
