/** Promises 12 to 14 and 27, and what Terms, 2, says of FLUSH, MERGES, SURE and REPAIR. */
final class EdgesOfRuns {
    private EdgesOfRuns() {
    }

    static void all() {
        flushes();
        mergedByLevels();
        mergedByNumber();
        merges();
        mergedRows();
        sure();
        mergedEntries();
        repairs();
        tooMany();
        runs();
    }

    private static void flushes() {
        Edges.promise(12, "FLUSH: true.", """
            calm
            remove(1)
            flush() = 1
            count(1|3) = 0 1
            """);
        Edges.promise(12, "False: there was no WRITE since the last one.", """
            calm
            flush() = 0
            change(1, 0, 0) = -1
            put(32, 0, 0, 0, 0) = -1
            flush() = 0
            count(3) = 0
            lay 1 1
            flush() = 0
            lay 2 2
            lay 3 3
            set(1, 2) = 1
            flush() = 0
            count(3) = 3
            set(0, 2) = 1
            put(4..5, 0, 0, 0, 0)
            flush() = 0
            """);
        Edges.terms(2, 12, "FLUSH (if there was a WRITE since the last one): MEMORY of the TABLE becomes a RUN, the newest "
            + "one, of LEVEL 0, FROM the first STAMP since the last FLUSH TO the last one.", """
            calm
            put(9, 1, 0, 0, 0) = 1
            put(9, 2, 0, 0, 0) = 2
            remove(17) = 3
            flush() = 1
            run(0, 0..4) = 2 0 1 3 2
            row(9, 0) = 2
            put(0, 0, 0, 0, 0) = 4
            flush() = 1
            run(0, 0..4) = 1 0 4 4 1
            run(0|1, 10) = 0 9
            run(1, 1..3) = 0 1 3
            set(0, 2) = 1
            put(31, 0, 0, 0, 0) = 5
            change(31, 0, 0) = 6
            run(0, 0..4) = 1 0 5 6 128
            """);
        Edges.terms(2, 12, "MEMORY of each INDEX: ENTRIES of which the KEY has a later VERSION in MEMORY of the TABLE go; "
            + "the others, if any, become a RUN, the newest one, of LEVEL 0, REPAIRED the STAMP.", """
            calm
            define by a = 0
            define by b where a>7 = 1
            put(1, 9, 4, 0, 0) = 1
            put(2, 5, 4, 0, 0) = 2
            put(1, 3, 4, 0, 0) = 3
            put(3, 5, 4, 0, 0) = 4
            put(3, 5, 4, 0, 0) = 5
            remove(2) = 6
            index(0..1, 4) = 5 1
            flush() = 1
            index(0, 3|20|60|100) = 1 2 0 6
            entry(0, 0, 0, 0..2) = 3 1 3
            entry(0, 0, 1, 0..2) = 5 3 5
            index(1, 3|4|8) = 0 0 -1
            put(7, 8, 1, 0, 0) = 7
            flush() = 1
            index(0, 3|20|21|100|101) = 2 1 2 7 6
            index(1, 3|100) = 1 7
            put(2, 8, 1, 0, 0) = 8
            define by d = 2
            put(7, 0, 1, 0, 0) = 9
            flush() = 1
            index(2, 3|20|100) = 1 1 9
            """);
        Edges.terms(2, 12, "All MEMORIES are empty then.", """
            calm
            define by a = 0
            put(1..3, 1, 0, 0, 0)
            define by b = 1
            put(3, 2, 0, 0, 0)
            flush() = 1
            count(1|2) = 0
            entry(0..1, NONE, 0, 0) = -2
            index(0..1, 4) = 3 1
            """);
    }

    private static void mergedByLevels() {
        Edges.terms(2, 12, "Behind that RUNS are MERGED: of the TABLE, then of INDEXES by numbers:", """
            calm
            define by a mends = 0
            set(1, 2) = 1
            lay 1 1
            remove(1) = 2
            lay 2 2
            count(3) = 1
            index(0, 3|20|100) = 1 1 3
            row(1, 4) = 2
            count(6|7) = 1 3
            new
            calm
            define by a mends = 0
            lay 1 1
            lay 1 2
            set(1, 2) = 1
            index(0, 3|4) = 2 2
            remove(3) = 3
            flush() = 1
            count(3) = 2
            index(0, 3|4|100) = 1 1 3
            """);
        Edges.terms(2, 12, "as long as FAN (2 .. 4, 2 at first) RUNS, one behind the other, have one LEVEL: the newest "
            + "such ones, FAN of them, into one of a LEVEL 1 more;", """
            lay 1 1
            lay 2 2
            lay 3 3
            run(0..1, 1) = 0 1
            lay 4 4
            count(3) = 1
            run(0, 0..3) = 4 2 1 4
            set(1, 3) = 1
            lay 5 5
            lay 6 6
            run(0..2, 1) = 0 0 2
            lay 7 7
            run(0..1, 1) = 1 2
            new
            calm
            lay 1 1
            lay 2 2
            lay 3 3
            count(3) = 3
            set(1, 3) = 1
            lay 4 4
            count(3) = 2
            run(0..1, 1) = 1 0
            run(0..1, 2) = 2 1
            new
            calm
            lay 1 1
            lay 2 2
            lay 3 3
            merge(NONE, 1, 2) = 2
            run(0..1, 1) = 0 1
            lay 4 4
            lay 5 5
            lay 6 6
            run(0, 0..1) = 4 1
            count(3) = 2
            """);
        Edges.terms(2, 12, "one behind the other, have one LEVEL:", """
            calm
            define by a = 0
            lay 1 1
            lay 2 2
            lay 3 3
            merge(NONE|0, 0, 2) = 2
            run(0..1, 1) = 1 0
            set(1, 2) = 1
            lay 4 4
            run(0..2, 1) = 0 1 0
            index(0, 60..62) = 0 1 0
            """);
    }

    private static void mergedByNumber() {
        Edges.terms(2, 12, "then, if there are more than 20, all of them into one, of a LEVEL 1 more than the greatest "
            + "one.", """
            twenty
            count(3) = 20
            run(0..4, 1) = 0 0 1 0 1
            lay 31 1
            count(3) = 1
            run(0, 0..3) = 30 2 1 30
            new
            twenty
            set(1, 3) = 1
            lay 31 1
            count(3) = 19
            run(0..3, 1) = 1 1 0 1
            new
            twenty
            merge(NONE, 6, 2) = 19
            run(6, 1) = 2
            lay 31 1
            count(3) = 20
            merge(NONE, 0, 2) = 19
            lay 30 1
            count(3) = 20
            lay 29 1
            count(3) = 1
            run(0, 1) = 3
            """);
        Edges.terms(2, 12, "if there are more than 20, all of them into one, of a LEVEL 1 more than the greatest one.", """
            define by 1 = 0
            twenty
            index(0, 3|79|40) = 20 0 -2
            merge(NONE, 0, 2) = 19
            remove(30) = 30
            flush() = 1
            count(3) = 20
            index(0, 3) = 20
            lay 31 1
            count(3) = 1
            index(0, 3|20|60|100) = 1 30 2 1
            """);
    }

    private static void merges() {
        Edges.promise(13, "RUNS of an INDEX (NONE: of the TABLE), from one on, so many of them, 2 or more, are MERGED into "
            + "one of a LEVEL 1 more than the greatest of theirs: how many RUNS there are then.", """
            calm
            define by a = 0
            lay 1 1
            lay 2 2
            lay 3 3
            merge(NONE, 1, 2) = 2
            run(0..1, 1) = 0 1
            run(0..1, 0) = 1 2
            index(0, 3) = 3
            merge(0, 0, 2) = 2
            index(0, 60..61) = 1 0
            index(0, 20..21) = 2 1
            merge(0, 0, 2) = 1
            index(0, 60) = 2
            count(3) = 2
            merge(NONE, 0, 2) = 1
            run(0, 1) = 2
            lay 4 4
            lay 5 5
            lay 6 6
            merge(NONE, 0, 2) = 3
            run(0..2, 1) = 1 0 2
            merge(NONE, 0, 2) = 2
            run(0..1, 1) = 2 2
            merge(NONE, 0, 2) = 1
            run(0, 1) = 3
            """);
        Edges.promise(13, "NONE: there are not these.", """
            calm
            merge(NONE, 0, 0..3) = -1
            define by a = 0
            merge(NONE..0, 0, 0..3) = -1
            lay 1 1
            lay 2 2
            lay 3 3
            merge(NONE..0, 0..2, 0..1|-1|MIN) = -1
            merge(NONE..0, 0, 4|MAX) = -1
            merge(NONE..0, 1, 3|MAX) = -1
            merge(NONE..0, 2..3, 2|MAX) = -1
            merge(NONE..0, -1|4|MIN|MAX, 2|3|MAX) = -1
            merge(-2|1|4|MIN|MAX, 0, 2) = -1
            count(3) = 3
            index(0, 3) = 3
            merge(NONE..0, 0, 3) = 1
            drop(0) = 1
            merge(0, 0, 2) = -1
            """);
        Edges.terms(2, 13, "A RUN without VERSIONS, ENTRIES is none.", """
            calm
            remove(1)
            flush() = 1
            remove(2)
            flush() = 1
            merge(NONE, 0, 2) = 0
            count(3|4) = 0
            define by a mends = 0
            build(0, 32) = 0
            index(0, 3) = 0
            lay 1 1
            lay 1 2
            remove(1)
            merge(0, 0, 2) = 0
            index(0, 3|4|8) = 0 0 -1
            flush() = 1
            lay 2 2
            index(0, 3) = 1
            remove(2)
            repair(0) = 1
            index(0, 3|8) = 0 -1
            new
            remove(1)
            flush() = 1
            remove(2)
            flush() = 1
            count(3) = 0
            """);
    }

    private static void mergedRows() {
        Edges.terms(2, 13, "RUNS, one behind the other, that are MERGED become one RUN in their place. Of the TABLE: of each "
            + "KEY the VERSION of the newest one; FROM the least, TO the greatest one;", """
            calm
            lay 0 1
            lay 31 2
            lay 31 3
            merge(NONE, 1, 2) = 2
            run(0, 0..3) = 1 0 3 3
            run(1, 0..4) = 2 1 1 2 129
            row(31, 0) = 3
            put(0, 4, 0, 0, 0) = 4
            put(0, 5, 0, 0, 0) = 5
            flush() = 1
            merge(NONE, 0, 3) = 1
            run(0, 0..4) = 2 2 1 5 129
            row(0, 0|4) = 5 5
            row(31, 0|4) = 3 3
            new
            calm
            lay 3 1
            remove(3) = 2
            flush() = 1
            put(3, 2, 0, 0, 0) = 3
            flush() = 1
            merge(NONE, 0, 2) = 2
            row(3, 0) = 2
            count(6) = 0
            """);
        Edges.terms(2, 13, "if the oldest RUN is among them, VERSIONS go that are GONE and have no STAMP above SURE.", """
            calm
            define by a = 0
            put(1, 1, 0, 0, 0) = 1
            remove(0) = 2
            flush() = 1
            remove(31) = 3
            put(2, 2, 0, 0, 0) = 4
            flush() = 1
            count(6|7) = 2 2
            merge(NONE, 0, 2) = 1
            row(0|31, 4) = -1 3
            count(6) = 1
            repair(0) = 0
            count(6|7) = 1 4
            lay 3 3
            lay 4 4
            merge(NONE, 0, 2) = 2
            count(6) = 1
            merge(NONE, 0, 2) = 1
            count(6) = 0
            row(31, 4) = -1
            row(1, 4) = 1
            """);
        Edges.terms(2, 13, "if the oldest RUN is among them,", """
            calm
            lay 1 1
            remove(1) = 2
            flush() = 1
            remove(9) = 3
            flush() = 1
            merge(NONE, 0, 2) = 2
            count(6) = 2
            row(1|9, 4) = 2 3
            merge(NONE, 0, 2) = 0
            row(1|9, 4) = -1
            remove(1) = 4
            flush() = 1
            put(1, 7, 0, 0, 0) = 5
            flush() = 1
            remove(2) = 6
            merge(NONE, 0, 2) = 1
            row(1|2, 4) = 5 6
            count(2|6) = 1 0
            new
            calm
            remove(1..3)
            flush() = 1
            remove(4) = 4
            flush() = 1
            put(2, 7, 0, 0, 0) = 5
            flush() = 1
            put(1, 8, 0, 0, 0) = 6
            remove(3) = 7
            merge(NONE, 1, 2) = 1
            row(1..4, 4) = 6 5 7 -1
            row(1..3, 0) = 8 7 -1
            count(5|6) = 2 0
            """);
    }

    private static void sure() {
        Edges.terms(2, 26, "SURE: the least of REPAIRED of all RUNS of all INDEXES, and of BEGUN of all that are BUILDING "
            + "(without any all go).", """
            calm
            count(7) = -1
            define by a = 0
            count(7) = -1
            put(1..3, 1, 1, 0, 0)
            count(7) = -1
            flush() = 1
            count(7) = 3
            define by b = 1
            lay 4 4
            lay 5 5
            count(7) = 3
            repair(0)
            count(7) = 3
            index(1, 8) = 3
            build(1, 32) = 0
            count(7) = 3
            index(1, 8) = 3
            repair(1) = 0
            count(7) = 5
            define by c where a>15 = 2
            put(6, 0, 0, 0, 0) = 6
            repair(0..1) = 0
            count(7) = 5
            drop(2) = 1
            count(7) = 6
            drop(0..1) = 1
            count(7) = -1
            """);
        Edges.terms(2, 13, "(without any all go).", """
            calm
            define by a where b>0 = 0
            remove(1) = 1
            flush() = 1
            remove(2) = 2
            flush() = 1
            merge(NONE, 0, 2) = 0
            row(1..2, 4) = -1
            put(3, 1, 1, 0, 0) = 3
            flush() = 1
            remove(3) = 4
            flush() = 1
            merge(NONE, 0, 2) = 1
            row(3, 4) = 4
            drop(0) = 1
            lay 5 5
            merge(NONE, 0, 2) = 1
            row(3, 4) = -1
            """);
    }

    private static void mergedEntries() {
        Edges.terms(2, 13, "Of an INDEX: all ENTRIES, but of one VALUE and KEY that of the greatest STAMP alone; REPAIRED the "
            + "least;", """
            calm
            define by a = 0
            put(1, 5, 0, 0, 0) = 1
            put(2, 5, 0, 0, 0) = 2
            flush() = 1
            put(1, 5, 1, 0, 0) = 3
            put(2, 6, 0, 0, 0) = 4
            flush() = 1
            put(1, 4, 0, 0, 0) = 5
            flush() = 1
            put(2, 5, 0, 0, 0) = 6
            merge(0, 0, 3) = 1
            index(0, 4|20|60|100) = 5 4 1 2
            entry(0, 0, 0, 0..2) = 4 1 5
            entry(0, 0, 1, 0..2) = 5 1 3
            entry(0, 0, 2, 0..2) = 5 2 2
            entry(0, 0, 3, 0..2) = 6 2 4
            repair(0) = 3
            index(0, 100) = 6
            flush() = 1
            lay 3 3
            merge(0, 0, 2) = 2
            index(0, 100..101) = 6 6
            new
            calm
            define by a = 0
            lay 1 5
            lay 1 5
            lay 2 3
            merge(0, 0, 2) = 2
            index(0, 20..21) = 2 1
            entry(0, 0, 0..1, 2) = 3 2
            merge(0, 0, 2) = 1
            entry(0, 0, 0..1, 2) = 3 2
            new
            calm
            remove(9) = 1
            define by a = 0
            lay 1 1
            put(1, 1, 1, 0, 0) = 3
            build(0, 32) = 0
            merge(0, 0, 2) = 1
            index(0, 20|4) = 1 2
            entry(0, 0, 0, 0..2) = 1 1 3
            """);
        Edges.terms(2, 13, "but if the INDEX MENDS, STALE ones go, and REPAIRED is the STAMP.", """
            calm
            define by a mends = 0
            define by a = 1
            put(1, 5, 0, 0, 0) = 1
            put(2, 7, 0, 0, 0) = 2
            flush() = 1
            put(1, 6, 0, 0, 0) = 3
            flush() = 1
            remove(2) = 4
            put(3, 1, 0, 0, 0) = 5
            put(3, 1, 0, 0, 0) = 6
            merge(0..1, 0, 2) = 1
            index(0, 20|4|100) = 1 3 6
            entry(0, 0, 0, 0..2) = 6 1 3
            index(1, 20|4|100) = 3 5 2
            """);
    }

    private static void repairs() {
        Edges.promise(14, "REPAIR of an INDEX: how many ENTRIES went.", """
            calm
            define by a = 0
            repair(0) = 0
            lay 1 1
            repair(0) = 0
            put(2, 2, 0, 0, 0)
            put(2, 3, 0, 0, 0)
            repair(0) = 0
            index(0, 4|5) = 3 1
            put(1, 4, 0, 0, 0)
            repair(0) = 1
            index(0, 3|4) = 0 3
            flush() = 1
            remove(1..2)
            repair(0) = 2
            index(0, 4) = 0
            """);
        Edges.promise(14, "NONE: there is none such.", """
            repair(-1|0|4|MIN|MAX) = -1
            define by a = 0
            repair(-1|1|4|MIN|MAX) = -1
            drop(0) = 1
            repair(0) = -1
            """);
        Edges.terms(2, 14, "REPAIR of an INDEX: each of its RUNS is replaced by one without the STALE ones, REPAIRED the "
            + "STAMP, of its LEVEL.", """
            calm
            define by a = 0
            put(1..2, 5, 0, 0, 0)
            flush() = 1
            put(1..2, 6, 0, 0, 0)
            flush() = 1
            merge(0, 0, 2) = 1
            lay 3 1
            put(3, 2, 0, 0, 0) = 6
            put(4, 2, 0, 0, 0) = 7
            flush() = 1
            remove(4) = 8
            index(0, 60..62) = 0 0 1
            repair(0) = 4
            index(0, 3|20|21) = 2 1 2
            index(0, 60..61) = 0 1
            index(0, 100..101) = 8
            put(9, 9, 9, 9, 9) = 9
            repair(0) = 0
            index(0, 100..101) = 9
            new
            put(1, 1, 0, 0, 0) = 1
            define by a = 0
            lay 1 2
            lay 1 3
            index(0, 3|60) = 1 1
            repair(0) = 1
            index(0, 0|3|60|100|8) = 1 1 1 3 1
            """);
        Edges.terms(2, 14, "A RUN without VERSIONS, ENTRIES is none.", """
            calm
            define by a = 0
            lay 1 1
            put(2, 2, 0, 0, 0) = 2
            put(3, 3, 0, 0, 0) = 3
            flush() = 1
            put(1|3, 9, 0, 0, 0) = 4 5
            repair(0) = 2
            index(0, 3..6|13|20|21) = 1 3 0 0 -1 1 -2
            entry(0, 0..1, 0, 0) = 2 -2
            ask(0, 0, 15, NONE) = 3
            cost(0..3) = 3 0 0 3
            """);
        Edges.terms(2, 14, "An ENTRY is STALE, if LATEST of its KEY is none, or has another STAMP.", """
            calm
            define by a where b=0 = 0
            lay 1 1
            lay 2 2
            lay 3 3
            index(0, 5) = 0
            put(1, 1, 0, 0, 0)
            remove(2)
            put(3, 3, 1, 0, 0)
            index(0, 5) = 3
            entry(0, 0..2, 0, 3) = 1
            entry(0, NONE, 0, 3) = 0
            repair(0) = 3
            index(0, 5) = 0
            """);
    }

    private static void tooMany() {
        String told = "If an INDEX has more than 96 ENTRIES behind a WRITE and its FLUSH, it is REPAIRED.";
        Edges.terms(2, 14, told, """
            calm
            define by a = 0
            define by b where b>0 = 1
            put(0..23, 0, 0, 0, 0)
            put(0..23, 1, 0, 0, 0)
            put(0..23, 2, 0, 0, 0)
            put(0..23, 3, 0, 0, 0)
            index(0, 4|5|8) = 96 72 12
            put(24, 9, 9, 0, 0) = 97
            index(0, 4|5|8) = 25 0 97
            index(1, 4) = 1
            """);
        Edges.terms(2, 14, "and its FLUSH, it is REPAIRED.", """
            calm
            define by a = 0
            put(0..20, 0, 0, 0, 0)
            put(0..20, 1, 0, 0, 0)
            put(0..20, 2, 0, 0, 0)
            put(0..20, 3, 0, 0, 0)
            put(21, 0, 0, 0, 0) = 85
            flush() = 1
            index(0, 4|5|8) = 85 63 12
            put(21, 1..11, 0, 0, 0)
            index(0, 4|5) = 96 74
            put(22, 0, 0, 0, 0) = 97
            count(1) = 0
            index(0, 4|5|8) = 87 64 12
            """);
        Edges.terms(2, 14, "more than 96 ENTRIES behind a WRITE", """
            calm
            put(0..11, 0, 0, 0, 0)
            define by a = 0
            put(0..23, 0, 0, 0, 0)
            put(0..23, 1, 0, 0, 0)
            put(0..23, 2, 0, 0, 0)
            put(0..23, 3, 0, 0, 0)
            index(0, 4|5|8) = 96 72 12
            build(0, 32) = 0
            index(0, 4|5|8) = 120 72 12
            put(25, 16, 0, 0, 0) = -1
            change(25, 0, 0) = -1
            flush() = 0
            mend(0, 1) = 1
            index(0, 4) = 120
            remove(31) = 109
            index(0, 4|5|8) = 48 0 109
            """);
    }

    private static void runs() {
        Edges.promise(27, "Of a RUN of the TABLE, what 0: VERSIONS, 1: LEVEL, 2: FROM, 3: TO, 4: FILTER (bits), 10 + i: the "
            + "KEY of its i-th VERSION, rising.", """
            calm
            put(31, 0, 0, 0, 0)
            remove(0)
            put(8, 0, 0, 0, 0)
            put(21, 0, 0, 0, 0)
            put(0, 1, 0, 0, 0)
            flush() = 1
            run(0, 0..4) = 4 0 1 5 161
            run(0, 10..13) = 0 8 21 31
            new
            calm
            set(0, 2) = 1
            put(0..31, 0, 0, 0, 0)
            count(3) = 1
            run(0, 0..4) = 32 2 1 32 255
            run(0, 10|41|42) = 0 31 -1
            """);
        Edges.promise(27, "NONE: there is none such, or for another what.", """
            calm
            run(0, 0..4|10) = -1
            put(7..9, 0, 0, 0, 0)
            run(0, 0..4|10) = -1
            flush() = 1
            run(0, 12) = 9
            run(0, -1|5..9|13|42|MIN|MAX) = -1
            run(-1|1|MIN|MAX, 0..4|10) = -1
            lay 1 1
            run(1, 0|13) = 3 -1
            run(2, 0) = -1
            merge(NONE, 0, 2) = 1
            run(1, 0) = -1
            """);
        Edges.terms(1, 27, "and RUNS, from 0 on, the newest one first: each has VERSIONS, one of a KEY at most, a LEVEL, "
            + "FROM, TO (STAMPS), and a FILTER: all KEYS modulo 8 that it has VERSIONS of.", """
            calm
            put(5, 1, 0, 0, 0) = 1
            put(5, 2, 0, 0, 0) = 2
            flush() = 1
            remove(0|8|16|24)
            flush() = 1
            put(7|31, 0, 0, 0, 0) = 7 8
            flush() = 1
            run(0..2, 0) = 2 4 1
            run(0..2, 1) = 0
            run(0..2, 2) = 7 3 1
            run(0..2, 3) = 8 6 2
            run(0..2, 4) = 128 1 32
            count(3|4) = 3 7
            """);
    }
}
