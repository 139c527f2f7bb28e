/** Promises 18 to 25: what is ASKED, its COST, CURSORS and what they leave over. */
final class EdgesOfAsked {
    private EdgesOfAsked() {
    }

    static void all() {
        asks();
        costs();
        boths();
        sums();
        nears();
        opens();
        nexts();
        closes();
        leftOver();
    }

    private static void asks() {
        Edges.promise(18, "ASKED: how many KEYS (k NONE), or the k-th.", """
            define by 7 = 0
            ask(0, 7, 7, NONE) = 0
            ask(0, 7, 7, 0) = -2
            put(31, 0, 0, 0, 0)
            ask(0, 7, 7, NONE..1) = 1 31 -2
            put(0..30, 0, 0, 0, 0)
            ask(0, 7, 7, NONE..1) = 32 0 1
            ask(0, 7, 7, 31..32) = 31 -2
            """);
        Edges.promise(18, "-2: not so many, there is no such INDEX, or it is BUILDING (nothing is ASKED in the last two cases).",
            """
            calm
            define by a = 0
            lay 1 5
            ask(-1|1|4|MIN|MAX, 0, 15, NONE..0) = -2
            define by a = 1
            ask(1, 0, 15, NONE..0) = -2
            cost(0..3) = -1
            ask(0, 0, 15, 1|-2|MIN|MAX) = -2
            cost(0..3) = 1 0 0 1
            put(2, 6, 0, 0, 0) = 2
            ask(0, 0, 15, 2) = -2
            cost(0) = 2
            put(3, 7, 0, 0, 0) = 3
            ask(1|2|-1, 0, 15, NONE) = -2
            cost(0..3) = 2 0 0 2
            drop(0) = 1
            ask(0, 0, 15, NONE) = -2
            cost(0) = 2
            build(1, 31) = 1
            ask(1, 0, 15, NONE) = -2
            cost(0) = 2
            build(1, 1) = 0
            ask(1, 0, 15, NONE) = 3
            cost(0) = 5
            """);
        Edges.terms(3, 18, "ASKED of a BUILT INDEX, from a VALUE to a VALUE: KEYS that ARE THERE, are WANTED, and have such a "
            + "VALUE, by VALUE, then by KEY.", """
            calm
            define by a where b=0 = 0
            put(4, 9, 0, 0, 0)
            put(31, 2, 0, 0, 0)
            put(7, 2, 0, 0, 0)
            put(0, 5, 1, 0, 0)
            put(3, 0, 0, 0, 0)
            flush() = 1
            put(9, 2, 0, 0, 0)
            put(4, 8, 0, 0, 0)
            put(12, 1, 0, 0, 0)
            remove(12)
            put(7, 2, 0, 9, 9)
            ask(0, 0, 15, NONE..5) = 5 3 7 9 31 4 -2
            ask(0, 2, 8, NONE..3) = 4 7 9 31 4
            ask(0, 2, 2, NONE..3) = 3 7 9 31 -2
            ask(0, 1, 7, NONE) = 3
            ask(0, 3, 7, NONE..0) = 0 -2
            ask(0, 9, 15, NONE) = 0
            ask(0, 8, 15, NONE) = 1
            ask(0, MIN, MAX, NONE) = 5
            ask(0, MIN, -1, NONE) = 0
            ask(0, MIN|-1, 0, NONE) = 1
            ask(0, 8, MAX, NONE) = 1
            ask(0, 9, MAX, NONE) = 0
            ask(0, 8, 2, NONE) = 0
            ask(0, MAX, MIN, NONE) = 0
            """);
    }

    private static void costs() {
        Edges.promise(19, "COST, what 0: ENTRIES gone along, 1: STALE, 2: DOUBLE, 3: LOOKS together.", """
            calm
            define by a = 0
            lay 1 9
            lay 1 3
            put(1, 5, 0, 0, 0) = 3
            put(1, 6, 0, 0, 0) = 4
            ask(0, 0, 15, NONE) = 1
            cost(0..3) = 4 1 2 2
            flush() = 1
            ask(0, 0, 15, 0) = 1
            cost(0..3) = 3 0 2 1
            ask(0, 0, 5, NONE) = 0
            cost(0..3) = 1 1 0 2
            remove(1) = 5
            ask(0, 0, 15, NONE) = 0
            cost(0..3) = 3 3 0 3
            ask(0, 7, 8, NONE) = 0
            cost(0..3) = 0
            """);
        Edges.promise(19, "NONE: nothing was ASKED, or for another what.", """
            cost(-1..4|MIN|MAX) = -1
            define by a = 0
            put(1, 1, 0, 0, 0)
            cost(0..3) = -1
            ask(0, 0, 15, NONE) = 1
            cost(0..3) = 1 0 0 1
            cost(-1|4|MIN|MAX) = -1
            """);
        Edges.terms(3, 19, "COST of what was ASKED last: all ENTRIES of such VALUES are gone along, those of MEMORY, then of "
            + "RUNS, the newest one first, as they stand: one of a KEY that was found already is DOUBLE; else it is looked "
            + "at: it is STALE, or its KEY is found.", """
            calm
            define by a = 0
            put(1, 5, 0, 0, 0) = 1
            put(2, 6, 0, 0, 0) = 2
            flush() = 1
            put(1, 4, 0, 0, 0) = 3
            put(10, 6, 0, 0, 0) = 4
            flush() = 1
            put(2, 5, 0, 0, 0) = 5
            put(2, 6, 0, 0, 0) = 6
            ask(0, 4, 6, NONE) = 3
            cost(0..3) = 6 1 2 4
            ask(0, 5, 6, NONE) = 2
            cost(0..3) = 5 2 1 5
            ask(0, 5, 5, NONE) = 0
            cost(0..3) = 2 2 0 3
            ask(0, 4, 4, NONE) = 1
            cost(0..3) = 1 0 0 1
            """);
        Edges.terms(3, 19, "one of a KEY that was found already is DOUBLE;", """
            calm
            put(0|31, 1, 0, 0, 0) = 1 2
            define by a = 0
            lay 0 2
            put(31, 3, 0, 0, 0) = 4
            build(0, 32) = 0
            ask(0, 0, 15, NONE) = 2
            cost(0..3) = 4 0 2 2
            ask(0, 3, 15, NONE) = 1
            cost(0..3) = 2 0 1 1
            ask(0, 0, 2, NONE) = 1
            cost(0..3) = 2 0 1 1
            """);
    }

    private static void boths() {
        Edges.promise(20, "BOTH: how many (k NONE), or the k-th.", """
            define by a = 0
            define by b where c=0 = 1
            both(0, 1, 1, 2, NONE..0) = 0 -2
            put(31, 1, 2, 0, 0)
            put(0, 1, 2, 0, 0)
            put(5, 1, 2, 1, 0)
            put(6, 1, 3, 0, 0)
            put(7, 2, 2, 0, 0)
            put(9, 1, 2, 0, 0)
            remove(9)
            both(0, 1, 1, 2, NONE..2) = 2 0 31 -2
            both(1, 2, 0, 1, NONE..2) = 2 0 31 -2
            both(0, 1, 0, 1, NONE) = 4
            both(0, 1, 0, 2, NONE) = 0
            """);
        Edges.promise(20, "-2: not so many, there is no such INDEX, or one is BUILDING. (COST stays.)", """
            define by a = 0
            both(0, 0, 0, 0, NONE..0) = 0 -2
            put(1, 0, 0, 0, 0) = 1
            define by a = 1
            both(0, 0, 0, 0, NONE..1) = 1 1 -2
            both(0, 0, 0, 0, -2|MIN|MAX) = -2
            both(0, 0, -1|1|2|4|MIN|MAX, 0, NONE..0) = -2
            both(-1|1|2|4|MIN|MAX, 0, 0, 0, NONE..0) = -2
            cost(0) = -1
            ask(0, 0, 0, 0) = 1
            put(2, 0, 0, 0, 0) = 2
            both(0, 0, 0, 0, NONE) = 2
            both(0, 9, 0, 9, NONE) = 0
            cost(0..3) = 1 0 0 1
            """);
        Edges.terms(4, 20, "BOTH of two BUILT INDEXES, each with a VALUE: KEYS that both would have, rising.", """
            define by a = 0
            define by b where c=0 = 1
            put(9|4|31|0, 1, 2, 0, 0)
            put(5, 1, 2, 1, 0)
            put(4, 1, 1, 0, 0)
            both(0, 1, 1, 2, NONE..3) = 3 0 9 31 -2
            both(0, -1|MIN|MAX, 1, 2, NONE) = 0
            both(0, 1, 1, -1|MIN|MAX, NONE) = 0
            both(0, -1, 1, -1, NONE) = 0
            """);
    }

    private static void sums() {
        Edges.promise(21, "The sum of a COLUMN of all ROWS that would be ASKED.", """
            calm
            define by a where d=0 = 0
            sum(0, 0, 15, 0..3) = 0
            put(0, 1, 15, 2, 0)
            put(31, 2, 14, 3, 0)
            put(5, 3, 13, 4, 0)
            put(6, 2, 12, 5, 1)
            put(7, 3, 1, 1, 0)
            remove(7)
            sum(0, MIN, MAX, 0..3) = 6 42 9 0
            sum(0, 1, 2, 0..3) = 3 29 5 0
            sum(0, 2, 2, 0..3) = 2 14 3 0
            sum(0, 3, 1, 0..3) = 0
            sum(0, 4, 15, 0..3) = 0
            sum(0, MIN, 1, 1) = 15
            sum(0, 3, MAX, 1) = 13
            """);
        Edges.promise(21, "NONE: there is no such INDEX, it is BUILDING, no such COLUMN. (COST stays.)", """
            calm
            define by a = 0
            put(1, 1, 2, 3, 4)
            sum(0, 0, 15, -1|4|MIN|MAX) = -1
            sum(-1|1|4|MIN|MAX, 0, 15, 0) = -1
            define by a = 1
            sum(1, 0, 15, 0) = -1
            sum(0, 0, 15, 3) = 4
            cost(0) = -1
            ask(0, 9, 9, NONE) = 0
            sum(0, 0, 15, 0) = 1
            cost(0) = 0
            drop(0) = 1
            sum(0, 0, 15, 0) = -1
            """);
    }

    private static void nears() {
        Edges.promise(22, "NEAR a VALUE (any int): the KEY.", """
            calm
            define by a+b = 0
            put(31, 0, 0, 0, 0)
            near(0, MIN|-1|0|1|MAX) = 31
            put(0, 15, 15, 0, 0)
            near(0, MIN|-1|0|15) = 31
            near(0, 16|30|31|MAX) = 0
            """);
        Edges.promise(22, "NONE: there are none, there is no such INDEX, it is BUILDING. (COST stays.)", """
            calm
            near(0, 0) = -1
            define by a where b=0 = 0
            near(0, 0|MIN|MAX) = -1
            put(3, 1, 1, 0, 0)
            near(0, 0) = -1
            define by a = 1
            near(1, 0) = -1
            near(-1|2|4|MIN|MAX, 0) = -1
            put(4, 1, 0, 0, 0)
            near(0, 0) = 4
            cost(0) = -1
            ask(0, 9, 9, NONE) = 0
            near(0, 1) = 4
            cost(0) = 0
            remove(4)
            near(0, 1) = -1
            drop(0) = 1
            near(0, 1) = -1
            """);
        Edges.terms(4, 22, "NEAR a VALUE: of KEYS that a BUILT INDEX has from 0 to 9999 that of the nearest VALUE, of several "
            + "the lesser VALUE, then the least KEY.", """
            calm
            define by 99*a+99*b+99*c+99*d = 0
            define by a = 1
            put(31, 15, 15, 15, 15)
            near(0, 0|5940|9999|MAX) = 31
            put(30, 0, 0, 0, 0)
            near(0, 2970|2969|MIN) = 30
            near(0, 2971) = 31
            put(5|4|6, 2, 0, 0, 0)
            put(2|3, 4, 0, 0, 0)
            near(1, 2|3) = 4
            near(1, 4|5|9) = 2
            near(1, 10) = 31
            near(1, 1) = 30
            """);
    }

    private static void opens() {
        Edges.promise(23, "A CURSOR is opened over a BUILT INDEX, from a VALUE to a VALUE: its number, the least that is free.",
            """
            define by a = 0
            put(1|2|3, 5, 0, 0, 0)
            put(4, 6, 0, 0, 0)
            open(0, 5, 5) = 0
            open(0, 9, 9) = 1
            open(0, 6, 5) = 2
            close(1) = 0
            open(0, MIN, MAX) = 1
            close(0..2) = 3 4 0
            open(0, 6, 6) = 0
            close(0) = 1
            open(0, 5, 6) = 0
            next(0) = 1
            """);
        Edges.promise(23, "NONE: there is no such INDEX, it is BUILDING, there are 3. (COST stays.)", """
            calm
            define by a = 0
            put(1, 1, 0, 0, 0)
            define by a = 1
            open(-1|1|2|4|MIN|MAX, 0, 15) = -1
            count(9) = 0
            open(0, 0|1|2, 15) = 0 1 2
            open(0, 0, 15) = -1
            count(9) = 3
            close(0..2) = 1 1 0
            cost(0) = -1
            ask(0, 9, 9, NONE) = 0
            open(0, 0, 15) = 0
            cost(0) = 0
            drop(0) = 1
            open(0, 0, 15) = -1
            """);
        Edges.terms(3, 23, "A CURSOR (at most 3, numbers 0 .. 2) is opened over what would be ASKED;", """
            calm
            define by a where b=0 = 0
            put(4, 9, 0, 0, 0)
            put(31|7, 2, 0, 0, 0)
            put(0, 5, 1, 0, 0)
            put(3, 0, 0, 0, 0)
            remove(3)
            open(0, 2, 9) = 0
            next(0) = 7
            next(0) = 31
            next(0) = 4
            next(0) = -1
            open(0, 2, 8) = 1
            open(0, 3, 9) = 2
            close(1|2) = 2 1
            next(3|-1) = -1
            """);
    }

    private static void nexts() {
        Edges.promise(24, "The next KEY of a CURSOR (it goes on by one then).", """
            define by 0 = 0
            put(0|31|16, 0, 0, 0, 0)
            open(0, 0, 0) = 0
            open(0, 0, 0) = 1
            next(0) = 0
            next(0) = 16
            next(1) = 0
            next(0) = 31
            next(1) = 16
            close(1) = 1
            """);
        Edges.promise(24, "NONE: there is none such, none is left.", """
            define by a = 0
            next(-1..3|MIN|MAX) = -1
            put(1, 1, 0, 0, 0)
            open(0, 2, 2) = 0
            next(0) = -1
            open(0, 1, 1) = 1
            next(1) = 1
            next(1) = -1
            next(1) = -1
            next(2|3|-1) = -1
            count(9) = 2
            close(1) = 0
            next(1) = -1
            """);
        Edges.terms(3, 24, "it goes along that, as it was then, whatever is written, KEY by KEY.", """
            calm
            define by a = 0
            put(1..5, 3, 0, 0, 0)
            flush() = 1
            open(0, 0, 9) = 0
            next(0) = 1
            remove(2)
            put(3, 9, 0, 0, 0)
            put(0|6, 3, 0, 0, 0)
            flush() = 1
            put(4, 3, 1, 0, 0)
            merge(NONE|0, 0, 2) = 1
            repair(0) = 3
            next(0) = 2
            next(0) = 3
            drop(0) = 1
            define by b = 0
            next(0) = 4
            close(0) = 1
            """);
    }

    private static void closes() {
        Edges.promise(25, "A CURSOR is closed: how many KEYS it had left.", """
            define by a = 0
            put(0..31, 3, 0, 0, 0)
            open(0, 3, 3) = 0
            open(0, 4, 4) = 1
            open(0, 3, 3) = 2
            next(2); next(2); next(0)
            close(0..2) = 31 0 30
            count(9) = 0
            open(0, 3, 3) = 0
            next(0) = 0
            close(0) = 31
            """);
        Edges.promise(25, "NONE: there is none such.", """
            close(-1..3|MIN|MAX) = -1
            define by a = 0
            open(0, 0, 0) = 0
            close(-1|1..3|MIN|MAX) = -1
            close(0) = 0
            close(0) = -1
            """);
    }

    private static void leftOver() {
        Edges.terms(3, 26, "It HOLDS the RUNS of the TABLE and of the INDEX there were then, till it is closed.", """
            calm
            define by a = 0
            define by b = 1
            lay 1 1
            lay 2 2
            open(0, 9, 9) = 0
            lay 3 3
            count(8) = 0
            repair(1)
            count(8) = 0
            merge(0, 0, 2) = 2
            count(8) = 1
            merge(NONE, 0, 2) = 2
            count(8) = 2
            merge(0|NONE, 0, 2) = 1
            count(8) = 4
            merge(0|NONE, 0, 2) = -1
            lay 4 4
            merge(0|NONE, 0, 2) = 1
            next(0) = -1
            count(8) = 4
            close(0) = 0
            count(8) = 0
            """);
        Edges.terms(3, 26, "A CURSOR (at most 3, numbers 0 .. 2) is opened over what would be ASKED; it goes along that, as "
            + "it was then, whatever is written, KEY by KEY. It HOLDS the RUNS of the TABLE and of the INDEX", """
            calm
            define by a = 0
            lay 1 1
            open(0, 9, 9) = 0
            lay 2 2
            open(0, 9, 9) = 1
            lay 3 3
            merge(NONE, 0, 2) = 2
            count(8) = 1
            merge(0, 0, 2) = 2
            count(8) = 2
            close(1) = 0
            count(8) = 0
            open(0, 9, 9) = 1
            lay 4 4
            merge(NONE, 1, 2) = 2
            count(8) = 2
            merge(0, 1, 2) = 2
            count(8) = 4
            new
            define by a = 0
            twenty
            open(0, 99, 99) = 0
            merge(NONE, 0, 19) = 2
            merge(0, 1, 19) = 2
            count(8) = 38
            merge(NONE|0, 0, 2) = 1
            count(8) = 40
            """);
        Edges.terms(3, 26, "LEFT OVER: RUNS that a CURSOR HOLDS and that are no more", """
            calm
            define by a = 0
            lay 1 1
            lay 2 2
            lay 3 3
            open(0, 9, 9) = 0
            count(8) = 0
            set(1, 2) = 1
            put(4, 4, 0, 0, 0)
            count(8) = 0
            flush() = 1
            count(3) = 1
            index(0, 3) = 1
            count(8) = 6
            close(0) = 0
            count(8) = 0
            """);
        Edges.terms(3, 26, "(one that is MERGED, REPAIRED, built or of an INDEX that is no more is no more, whatever comes in "
            + "its place; each counted once).", """
            calm
            define by a = 0
            define by b = 1
            lay 1 1
            lay 2 2
            lay 3 3
            open(0, 0, 9) = 0
            open(0, 3, 3) = 1
            merge(NONE, 1, 2) = 2
            count(8) = 2
            repair(0) = 0
            count(8) = 5
            repair(0) = 0
            count(8) = 5
            close(0) = 3
            count(8) = 5
            open(0, 0, 9) = 0
            open(1, 0, 9) = 2
            count(8) = 5
            drop(0) = 1
            count(8) = 8
            define by a = 0
            build(0, 32) = 0
            count(8) = 8
            drop(1) = 1
            count(8) = 11
            close(2) = 3
            count(8) = 8
            close(1) = 1
            count(8) = 3
            close(0) = 3
            count(8) = 0
            new
            calm
            lay 1 1
            define by a = 0
            define by b where a=15 = 1
            lay 2 2
            build(0, 32) = 0
            index(0, 3) = 2
            open(0, 0, 9) = 0
            build(1, 32) = 0
            count(8) = 0
            merge(0, 0, 2) = 1
            count(8) = 2
            """);
    }
}
