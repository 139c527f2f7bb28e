/** Promises 34 to 36: what is tried, images. */
final class EdgesOfImages {
    private EdgesOfImages() {
    }

    static void all() {
        tried();
        triedNone();
        images();
        agains();
        parts();
    }

    private static void tried() {
        Edges.promise(34, "LOAD, n times, 1 .. 20, tried (nothing stays): what 0 to 13 as count() then; 20 + i: ENTRIES, 30 + "
            + "i: WASTE of an INDEX.", """
            calm
            define by a = 0
            define by b where a<5 = 1
            define by c = 2
            drop(2) = 1
            put(30, 1, 1, 1, 1) = 1
            text by
            tried(1, 3, 0..13) = 4 4 3 0 0 3 0 -1 0 0 3 0 0 0
            tried(1, 3, 20|21|30|31) = 4 4 1 1
            tried(1, 20, 0|1|3|11) = 20 8 1 1
            tried(1, 1, 0) = 2
            tried(-1, 1, 0|11) = 1 1
            count(0..14) = 1 1 1 0 0 1 0 -1 0 0 3 0 0 0 2
            index(0..1, 4|6) = 1 0 1 0
            why(0, 0) = -1
            row(30, 4) = 1
            load(1, 3) = 0
            count(0|1|2|5) = 4 4 3 3
            index(0..1, 4|6) = 4 1 4 1
            """);
        Edges.promise(34, "tried (nothing stays):", """
            calm
            define by 7 unique = 0
            put(30, 1, 1, 1, 1) = 1
            put(29, 1, 1, 1, 1) = -1
            open(0, 0, 9) = 0
            ask(0, 7, 7, 0) = 30
            set(0, 2) = 1
            tried(1, 20, 0|1|3|11|13) = 3 1 1 19 0
            set(1, 2) = 1
            tried(1, 20, 13) = 1
            count(0..13) = 1 1 1 0 0 1 0 -1 0 1 1 1 0 0
            why(0, 0..1) = 0 29
            why(2, 0..1) = 30 1
            cost(0..3) = 1 0 0 1
            next(0) = 30
            """);
    }

    private static void triedNone() {
        Edges.promise(34, "NONE: another n, no such INDEX, or for another what.", """
            calm
            define by a = 0
            define by b = 1
            drop(0) = 1
            tried(1, 0|21|-1|MIN|MAX, 0|13|21|31) = -1
            tried(1, 1|20, 20|30|22..24|32..34|29) = -1
            tried(1, 1, -1|14..19|25..28|35..60|MIN|MAX) = -1
            tried(1, 1, 0|21|31) = 1 1 0
            count(0|11) = 0
            """);
    }

    private static void images() {
        Edges.promise(35, "Image k (0 .. 2) is all that is (the tape, the FAULT, WHY, COST, CURSORS, too), as it is now: true; "
            + "false for another k.", """
            image(-1|3|MIN|MAX) = 0
            again(0..2) = 0
            put(1, 1, 0, 0, 0) = 1
            image(0) = 1
            put(2, 1, 0, 0, 0) = 2
            image(1) = 1
            put(3, 1, 0, 0, 0) = 3
            image(2) = 1
            put(4, 1, 0, 0, 0) = 4
            image(-1|3|MIN|MAX) = 0
            count(0|5) = 4 4
            again(1) = 1
            count(0|5) = 2 2
            again(2) = 1
            count(0|5) = 3 3
            again(0) = 1
            count(0|5) = 1 1
            remove(9) = 2
            image(2) = 1
            image(2) = 1
            again(1) = 1
            count(5) = 2
            again(2) = 1
            count(0|5) = 2 1
            """);
        Edges.promise(35, "as it is now: true;", """
            calm
            image(0) = 1
            put(1, 1, 0, 0, 0) = 1
            define by a = 0
            flush() = 1
            again(0) = 1
            count(0|3|5|10) = 0
            row(1, 4) = -1
            define by b = 0
            index(0, 0) = 2
            image(0) = 1
            put(1, 1, 2, 0, 0) = 1
            again(0) = 1
            index(0, 4|10|11) = 0 0 -1
            """);
    }

    private static void agains() {
        Edges.promise(36, "All that is is as image k has it: true; false if there is none such.", """
            again(-1..3|MIN|MAX) = 0
            put(1, 1, 0, 0, 0) = 1
            again(0) = 0
            image(1) = 1
            put(2, 1, 0, 0, 0) = 2
            again(-1|0|2|3|MIN|MAX) = 0
            count(0) = 2
            again(1) = 1
            count(0) = 1
            put(3, 1, 0, 0, 0) = 2
            again(1) = 1
            again(1) = 1
            count(0|5) = 1 1
            row(3, 4) = -1
            """);
        Edges.promise(36, "All that is is as image k has it:", """
            image(0) = 1
            put(1, 1, 1, 1, 1) = 1
            image(1) = 1
            again(0) = 1
            again(1) = 1
            count(0) = 1
            put(1, 2, 2, 2, 2) = 2
            flush() = 1
            again(1) = 1
            count(0|1|3) = 1 1 0
            row(1, 0..4) = 1 1 1 1 1
            again(0) = 1
            again(2) = 0
            count(0) = 0
            """);
    }

    private static void parts() {
        Edges.promise(35, "(the tape, the FAULT, WHY, COST, CURSORS, too)", """
            calm
            define by a = 0
            lay 1 5
            put(1, 6, 0, 0, 0) = 2
            put(2, 6, 0, 0, 0) = 3
            flush() = 1
            put(3, 7, 0, 0, 0) = 4
            put(2, 6, 0, 0, 0) = 5
            put(4, 5|9, 0, 0, 0) = 6 7
            change(9, 0, 0) = -1
            image(1) = 1
            ask(0, 5, 6, 0) = 1
            cost(0..3) = 5 1 2 3
            open(0, 5, 7) = 0
            next(0) = 1
            define by a+b+c+d+a = -1
            text by 7*d
            image(0) = 1
            next(0) = 2
            close(0) = 1
            define by b where = -1
            text by 9
            change(8, 0, 0) = -1
            ask(0, 0, 0, NONE) = 0
            merge(NONE|0, 0, 2) = 1
            repair(0) = 2
            open(0, 7, 9) = 0
            open(0, 6, 6) = 1
            again(0) = 1
            fault(0..1) = 2 11
            count(14) = 6
            why(0, 0..1) = 1 9
            count(8|9|11) = 0 1 1
            cost(0..3) = 5 1 2 3
            next(0) = 2
            next(0) = 3
            next(0|1) = -1
            merge(NONE|0, 0, 2) = 1
            count(8) = 4
            define() = 1
            value(1, 1, 2, 3, 4) = 28
            again(1) = 1
            cost(0..3) = -1
            fault(0..1) = 0 -1
            count(9|14) = 0
            """);
        Edges.promise(35, "is all that is", """
            set(0, 3) = 1
            set(1, 3) = 1
            put(1|2, 1, 0, 0, 0) = 1 2
            define by 1 unique = 0
            build(0, 32) = -2
            define by a = 0
            define by b where a<9 mends = 1
            build(0, 2) = 30
            image(2) = 1
            set(0, 12) = 1
            set(1, 2) = 1
            mend(1, 0) = 1
            mend(0, 1) = 1
            build(0, 30) = 0
            lay 4 4
            drop(1) = 1
            define by c unique = 1
            define by 1 unique = 2
            build(2, 32) = -2
            lay 5 5
            again(2) = 1
            count(2|10|12) = 2 3 1
            index(0..1, 0) = 1
            index(0..1, 1) = 0
            index(0..1, 2) = 0 1
            index(0..1, 3) = 0
            index(0..1, 7|9|8) = 30 1 2 32 0 2
            value(1, 8|9, 9, 0, 0) = 9 -1
            put(7, 7, 0, 0, 0) = 3
            count(3) = 1
            lay 8 8
            count(3) = 2
            lay 9 9
            count(3) = 1
            """);
        Edges.promise(35, "all that is (the tape,", """
            calm
            put(20|1, 9, 0, 0, 0) = 1 2
            define by a = 0
            lay 2 3
            lay 3 1
            put(4, 4, 0, 0, 0) = 5
            flush() = 1
            merge(NONE, 1, 2) = 2
            merge(0, 0, 2) = 2
            build(0, 16) = 16
            put(5|4, 2, 0, 0, 0) = 6 7
            image(0) = 1
            put(5..9, 8, 0, 0, 0)
            build(0, 16) = 0
            repair(0) = 2
            merge(NONE|0, 0, 2) = 1 2
            lay 31 1
            again(0) = 1
            count(0..6) = 7 2 2 2 5 6 0
            row(1..5, 0) = 9 3 1 2 2
            row(1..5, 4) = 2 3 4 7 6
            run(0..1, 0) = 1 4
            run(0..1, 1) = 0 1
            run(0..1, 2) = 5 1
            run(0..1, 3) = 5 4
            run(0..1, 10) = 4 1
            index(0, 3|4|9) = 2 5 4
            index(0, 20..21) = 2 1
            index(0, 60..61) = 1 0
            index(0, 100..101) = 4 3
            entry(0, NONE, 0..1, 0..2) = 2 4 7 2 5 6
            entry(0, 0, 0..1, 0..2) = 1 3 4 4 4 5
            entry(0, 1, 0, 0..2) = 3 2 3
            build(0, 16) = 0
            index(0, 3|4) = 3 10
            entry(0, 2, 0..4, 0) = 1 3 4 9 9
            entry(0, 2, 0..4, 1) = 3 2 4 1 20
            """);
    }
}
