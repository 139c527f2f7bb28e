/** Promises 26, 32 and 33: what is counted, what MERGES would leave, what is HELD. */
final class EdgesOfTold {
    private EdgesOfTold() {
    }

    static void all() {
        counts();
        countsOne();
        next();
        woulds();
        helds();
    }

    private static void counts() {
        Edges.promise(26, "What 0: the STAMP, 1: WRITES since the last FLUSH, 2: VERSIONS in MEMORY, 3: RUNS of the TABLE, 4: "
            + "VERSIONS in all of these, 5: KEYS that ARE THERE, 6: VERSIONS that are GONE, in RUNS, 7: SURE (NONE: all "
            + "go), 8: LEFT OVER, 9: CURSORS, 10: INDEXES (bits), 11: how many WRITES were REFUSED, 12: builds that "
            + "CLASHED, 13: NEXT, 14: bytes on the tape.", """
            set(0, 7) = 1
            define by a = 0
            define by 1 where a=15 unique = 1
            define by c = 2
            drop(0) = 1
            put(1, 15, 0, 0, 0) = 1
            put(2, 0, 0, 0, 0) = 2
            put(2, 15, 0, 0, 0) = -1
            remove(1) = 3
            remove(1) = 4
            change(30, 0, 0) = -1
            put(2, 1, 1, 1, 1) = 5
            open(2, 0, 9) = 0
            open(2, 0, 9) = 1
            text by by
            count(0..14) = 5 5 2 0 0 1 0 -1 0 2 6 2 0 0 5
            remove(3|4) = 6 7
            count(0..14) = 7 0 0 1 4 1 3 7 0 2 6 2 0 0 5
            close(1) = 1
            open(2, 0, 9) = 1
            put(1|5, 2, 0, 3, 0) = 8 9
            count(13) = 1
            flush() = 1
            count(0..14) = 9 0 0 1 3 3 0 7 2 2 6 2 0 0 5
            """);
        Edges.promise(26, "NONE for another what.", """
            put(1..5, 1, 0, 0, 0)
            text by a
            count(-1|15..40|MIN|MAX) = -1
            """);
    }

    private static void countsOne() {
        Edges.promise(26, "5: KEYS that ARE THERE, 6: VERSIONS that are GONE, in RUNS,", """
            calm
            define by a = 0
            put(0|31, 1, 0, 0, 0) = 1 2
            remove(5) = 3
            count(4..6) = 0 2 0
            flush() = 1
            remove(5) = 4
            count(4..6) = 3 2 1
            flush() = 1
            count(4..6) = 4 2 2
            put(5, 1, 0, 0, 0) = 5
            remove(31) = 6
            count(4..6) = 4 2 2
            """);
        Edges.promise(26, "10: INDEXES (bits), 11: how many WRITES were REFUSED, 12: builds that CLASHED,", """
            calm
            count(10..12) = 0
            change(1, 0, 0) = -1
            put(2|3, 5, 0, 0, 0) = 1 2
            define by a = 0
            define by a = 1
            define by a unique = 2
            define by a unique = 3
            count(10..12) = 15 1 0
            build(3, 32) = -2
            count(10..12) = 7 1 1
            drop(1) = 1
            build(2, 32) = -2
            count(10..12) = 1 1 2
            """);
    }

    private static void next() {
        Edges.terms(4, 26, "NEXT: how many times RUNS of the TABLE would be MERGED by a FLUSH now (0 without a WRITE since the "
            + "last one).", """
            calm
            count(13) = 0
            lay 1 1
            lay 2 2
            lay 3 3
            set(1, 2) = 1
            count(13) = 0
            change(9, 0, 0) = -1
            count(13) = 0
            put(4, 4, 0, 0, 0) = 4
            count(13) = 3
            set(1, 3) = 1
            count(13) = 1
            set(1, 4) = 1
            count(13) = 1
            merge(NONE, 1, 2) = 2
            count(13) = 0
            set(1, 2) = 1
            count(13) = 2
            count(3) = 2
            flush() = 1
            count(3|13) = 1 0
            """);
        Edges.terms(4, 26, "would be MERGED by a FLUSH now", """
            twenty
            count(13) = 0
            merge(NONE, 0, 2) = 19
            put(31, 1, 0, 0, 0) = 30
            count(13) = 0
            flush() = 1
            put(31, 1, 0, 0, 0) = 31
            count(13) = 1
            set(1, 2) = 1
            count(13) = 2
            new
            calm
            remove(1) = 1
            flush() = 1
            remove(2) = 2
            flush() = 1
            merge(NONE, 0, 2) = 0
            set(1, 2) = 1
            remove(1) = 3
            count(13) = 0
            flush() = 1
            remove(2) = 4
            count(13) = 1
            flush() = 1
            count(3) = 0
            """);
    }

    private static void woulds() {
        Edges.promise(32, "WOULD.", """
            calm
            define by a = 0
            lay 1 1
            lay 2 1
            would(0, 0, 2) = 2
            lay 1 1
            would(0, 0, 3) = 2
            index(0, 3|4) = 3 3
            """);
        Edges.promise(32, "NONE: there are not these (2 or more).", """
            calm
            define by a = 0
            would(0, 0, 2) = -1
            lay 1 1
            lay 2 2
            lay 3 3
            would(0, 0..2, 0|1|-1|MIN) = -1
            would(0, 0, 4|MAX) = -1
            would(0, 1, 3|MAX) = -1
            would(0, 2..3, 2|MAX) = -1
            would(0, -1|4|MIN|MAX, 2|3|MAX) = -1
            would(-2|-1|1|4|MIN|MAX, 0, 2) = -1
            would(0, 0, 2..3) = 2 3
            would(0, 1, 2) = 2
            drop(0) = 1
            would(0, 0, 2) = -1
            """);
        Edges.terms(4, 32, "WOULD of RUNS of an INDEX, one behind the other: how many ENTRIES they had, were they MERGED now.", """
            calm
            define by a = 0
            put(1, 5, 0, 0, 0) = 1
            put(2, 5, 0, 0, 0) = 2
            flush() = 1
            put(1, 5, 1, 0, 0) = 3
            put(2, 6, 0, 0, 0) = 4
            flush() = 1
            put(1, 4, 0, 0, 0) = 5
            flush() = 1
            put(3, 5, 0, 0, 0) = 6
            would(0, 0, 3) = 4
            would(0, 0..1, 2) = 3
            mend(0, 1) = 1
            would(0, 0, 3) = 2
            would(0, 0..1, 2) = 2 1
            remove(1..2)
            would(0, 0, 3) = 0
            mend(0, 0) = 1
            would(0, 0, 3) = 4
            index(0, 3|4) = 3 6
            new
            put(1, 1, 0, 0, 0) = 1
            define by a = 0
            lay 1 1
            set(1, 4) = 1
            lay 2 2
            build(0, 32) = 0
            would(0, 1, 2) = 2
            new
            calm
            remove(9) = 1
            define by a = 0
            lay 1 1
            lay 5 9
            lay 1 1
            build(0, 32) = 0
            would(0, 0..2, 2) = 2 2 2
            would(0, 0..1, 3) = 2
            merge(0, 1, 2) = 3
            index(0, 20..22) = 1 2 2
            """);
    }

    private static void helds() {
        Edges.promise(33, "HELD.", """
            calm
            define by a = 0
            lay 1 1
            remove(1|0|31) = 2 3 4
            held(0|1|31) = 0
            """);
        Edges.promise(33, "NONE: by none, LATEST is none, is not GONE, no such KEY.", """
            calm
            define by a = 0
            remove(5) = 1
            held(5) = -1
            lay 6 6
            held(5) = -1
            remove(5) = 3
            held(5) = 0
            held(4|6) = -1
            held(-1|32|MIN|MAX) = -1
            repair(0) = 0
            held(5) = -1
            remove(6) = 4
            held(6) = 0
            drop(0) = 1
            held(6) = -1
            """);
        Edges.terms(4, 33, "HELD of a KEY: the first INDEX by which its LATEST, if that is GONE, has a STAMP above SURE (one of "
            + "whose RUNS is REPAIRED ahead of it, or that is BUILDING, BEGUN ahead of it).", """
            calm
            define by a where b=1 = 0
            define by a = 1
            lay 1 1
            remove(1) = 2
            held(1) = 1
            define by b = 2
            remove(2) = 3
            held(1..2) = 1
            drop(1) = 1
            held(1..2) = -1 2
            put(3, 3, 1, 0, 0) = 4
            flush() = 1
            held(1..3) = -1 2 -1
            remove(3) = 5
            held(3) = 0
            repair(0) = 1
            held(3) = 2
            build(2, 32) = 0
            held(2..3) = -1 2
            repair(2) = 1
            held(3) = -1
            """);
    }
}
