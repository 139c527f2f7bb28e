/** Promises 1 to 7 and 30, and what Terms, 1, says of KEYS, STAMPS and texts. */
final class EdgesOfTexts {
    private EdgesOfTexts() {
    }

    static void all() {
        newObject();
        tape();
        defines();
        tokens();
        grammar();
        faults();
        sets();
        values();
    }

    private static void newObject() {
        Edges.promise(1, "An empty TABLE, no INDEXES, CURSORS, images.", """
            count(0..14) = 0 0 0 0 0 0 0 -1 0 0 0 0 0 0 0
            row(0..31, 4) = -1
            run(0, 0) = -1
            flush() = 0
            index(0..3, 0) = -2
            next(0..2) = -1
            close(0..2) = -1
            again(0..2) = 0
            cost(0..3) = -1
            why(0..2, 0..1) = -1
            define() = -1
            fault(1) = 0
            """);
        Edges.opening(1, "An object is used for at most 512 calls after it has been made;", """
            set(0, 12) = 1
            feed(0x62792031, 0x20202020, 0x20202020, 0x20202020, 0x20202020) = 20
            define() = 0
            put(0..31, 0..14, 0, 0, 0)
            remove(4..31)
            count(0) = 508
            new
            image(0) = 1
            put(0..31, 0..14, 0, 0, 0)
            image(0..2) = 1
            remove(4..30)
            count(0) = 507
            """);
        Edges.terms(2, 1, "ROOM is 2 .. 12, 4 at first:", """
            put(0..2, 0, 0, 0, 0) = 1 2 3
            count(1|3) = 3 0
            put(3, 0, 0, 0, 0) = 4
            count(1|3) = 0 1
            """);
        Edges.terms(2, 1, "as long as FAN (2 .. 4, 2 at first) RUNS", """
            lay 1 1
            count(3) = 1
            lay 2 2
            count(3) = 1
            run(0, 1) = 1
            """);
        Edges.terms(1, 8, "KEYS are 0 .. 31.", """
            calm
            put(0|31, 1, 2, 3, 4) = 1 2
            change(0|31, 0, 9) = 3 4
            remove(0|31) = 5 6
            row(0|31, 4) = 5 6
            put(-1|32, 1, 2, 3, 4) = -1
            change(-1|32, 0, 9) = -1
            remove(-1|32) = -1
            row(-1|32, 4) = -1
            held(-1|32) = -1
            count(0|2) = 6 2
            """);
        Edges.terms(1, 8, "A ROW has four COLUMNS, a, b, c, d (0 .. 3), each 0 .. 15.", """
            put(3, 0, 15, 0, 15) = 1
            row(3, 0..3) = 0 15 0 15
            change(3, 0..3, 15|0) = 2 3 4 5 6 7 8 9
            row(3, 0..3) = 0
            change(3, -1|4, 0) = -1
            change(3, 0..3, -1|16) = -1
            put(3, -1|16, 0, 0, 0) = -1
            put(3, 0, -1|16, 0, 0) = -1
            put(3, 0, 0, -1|16, 0) = -1
            put(3, 0, 0, 0, -1|16) = -1
            """);
        Edges.terms(1, 8, "A WRITE is of a KEY and has a STAMP: the first one 1, one more for each (STAMP is 0 ahead "
            + "of any); it makes a VERSION of its KEY: a ROW, or GONE.", """
            count(0) = 0
            put(5, 0, 0, 0, 0) = 1
            remove(9) = 2
            change(5, 0, 0) = 3
            put(32, 0, 0, 0, 0) = -1
            change(9, 0, 0) = -1
            flush() = 1
            count(0) = 3
            remove(5) = 4
            row(5|9, 4) = 4 2
            row(5|9, 0) = -1
            """);
    }

    private static void tape() {
        Edges.promise(2, "The tape: twenty bytes come behind it, of each number the highest first: how many it has.", """
            feed(0x62792061, 0x2b322a62, 0x2b332a63, 0x2b342a64, 0x20202020) = 20
            feed(0x20202020, 0x77686572, 0x6520613c, 0x64202020, 0x2020ff20) = 40
            end(38) = 38
            define() = 0
            value(0, 1, 2, 3, 4) = 30
            value(0, 4, 2, 3, 4) = -1
            feed(0x62792061, 0xe1202020, 0, 0, 0) = 20
            define() = -1
            fault(1) = 4
            feed(-1, -1, -1, -1, -1) = 20
            define() = -1
            fault(1) = 0
            """);
        Edges.promise(2, "NONE, and nothing comes, if there would be more than 200.", """
            blanks 9
            count(14) = 180
            feed(0x62792063, 0x20202020, 0x20202020, 0x20202020, 0x20202020) = 200
            feed(0x2b612020, 0, 0, 0, 0) = -1
            count(14) = 200
            define() = 0
            value(0, 1, 2, 4, 8) = 4
            blanks 8
            feed(0x62792063, 0x20202020, 0x20202020, 0x20202020, 0x20202020) = 180
            feed(0x20202020, 0x20202020, 0x20202020, 0x20202020, 0x2b612020) = 200
            end(181) = 181
            feed(0, 0, 0, 0, 0) = -1
            count(14) = 181
            end(199) = -1
            define() = 1
            value(1, 1, 2, 4, 8) = 4
            """);
        Edges.terms(1, 2, "THE TAPE has at most 200 bytes.", """
            feed(0x62792063, 0x20202020, 0x20202020, 0x20202020, 0x20202020) = 20
            blanks 8
            feed(0x20202020, 0x20202020, 0x20202020, 0x20202020, 0x20202b61) = 200
            define() = 0
            value(0, 1, 2, 4, 8) = 5
            feed(0x62792020, 0x20202020, 0x20202020, 0x20202020, 0x20202020) = 20
            blanks 10
            count(14) = 200
            define() = -1
            fault(1) = 200
            feed(0x62792b2b, 0x2b2b2b2b, 0x2b2b2b2b, 0x2b2b2b2b, 0x2b2b2b2b) = 20
            feed(0x2b2b2b2b|0x2b2b2b2b|0x2b2b2b2b, 0x2b2b2b2b, 0x2b2b2b2b, 0x2b2b2b2b, 0x2b2b2b2b) = 40 60 80
            feed(0x2b2b2b2b|0x2b2b2b2b|0x2b2b2b2b, 0x2b2b2b2b, 0x2b2b2b2b, 0x2b2b2b2b, 0x2b2b2b2b) = 100 120 140
            feed(0x2b2b2b2b|0x2b2b2b2b|0x2b2b2b2b, 0x2b2b2b2b, 0x2b2b2b2b, 0x2b2b2b2b, 0x2b2b2b2b) = 160 180 200
            define() = -1
            fault(1) = 2
            feed(0x2b2b2b2b, 0x2b2b2b2b, 0x2b2b2b2b, 0x2b2b2b2b, 0x2b2b2b2b) = 20
            feed(0x2b2b2b2b|0x2b2b2b2b|0x2b2b2b2b, 0x2b2b2b2b, 0x2b2b2b2b, 0x2b2b2b2b, 0x2b2b2b2b) = 40 60 80
            feed(0x2b2b2b2b|0x2b2b2b2b|0x2b2b2b2b, 0x2b2b2b2b, 0x2b2b2b2b, 0x2b2b2b2b, 0x2b2b2b2b) = 100 120 140
            feed(0x2b2b2b2b|0x2b2b2b2b|0x2b2b2b2b, 0x2b2b2b2b, 0x2b2b2b2b, 0x2b2b2b2b, 0x2b2b2b2b) = 160 180 200
            define() = -1
            fault(1) = 0
            """);
        Edges.promise(3, "The tape has its first n bytes alone: n.", """
            text by a+b+c
            end(8) = 8
            end(6) = 6
            end(6) = 6
            count(14) = 6
            feed(0x2b642020, 0x20202020, 0x20202020, 0x20202020, 0x20202020) = 26
            define() = 0
            value(0, 1, 2, 4, 8) = 11
            text by a
            end(0) = 0
            count(14) = 0
            define() = -1
            fault(1) = 0
            """);
        Edges.promise(3, "NONE if it has not so many, or n is below 0.", """
            end(0) = 0
            end(1|MAX|-1|MIN) = -1
            text by a+b+c
            end(9|20|MAX|-1|MIN) = -1
            count(14) = 8
            end(4) = 4
            end(5|8) = -1
            count(14) = 4
            define() = 0
            value(0, 1, 2, 4, 8) = 1
            """);
    }

    private static void defines() {
        Edges.promise(4, "The tape is taken (and is empty then) as the text of a new INDEX: its number.", """
            text by a
            define() = 0
            count(14) = 0
            define by b = 1
            define by c unique = 2
            define by d mends = 3
            value(0..3, 1, 2, 4, 8) = 1 2 4 8
            index(0..3, 1) = 0 0 1 0
            index(0..3, 2) = 0 0 0 1
            """);
        Edges.promise(4, "NONE: a FAULT.", """
            define by a = 0
            text by b unique mends mends
            define() = -1
            count(14) = 0
            count(10) = 1
            index(1, 0) = -2
            value(1, 0, 0, 0, 0) = -1
            define by d = 1
            index(1, 1..2) = 0 0
            value(1, 1, 2, 4, 8) = 8
            """);
        Edges.promise(4, "-2: there are 4 (the tape is empty then, too; no text is read, FAULT 0).", """
            define by a = 0
            define by b = 1
            define by c = 2
            define by d+ = -1
            fault(0..1) = 1 5
            define by d = 3
            text by +
            define() = -2
            count(14) = 0
            fault(0..1) = 0 -1
            text by a
            define() = -2
            count(14) = 0
            count(10) = 15
            drop(2) = 1
            define by b+ = -1
            fault(0..1) = 1 5
            define by b = 2
            """);
        Edges.terms(1, 4, "An INDEX (at most 4, numbers 0 .. 3) has a VALUE of each ROW, by its SUM, and WANTS a ROW, "
            + "or not, by its ATOMS; it is UNIQUE, or not; it MENDS, or not.", """
            define by a where b>0 = 0
            define by a unique = 1
            define by a mends = 2
            define by a unique mends = 3
            define by a = -2
            index(0..3, 1) = 0 1 0 1
            index(0..3, 2) = 0 0 1 1
            value(0..3, 7, 0, 0, 0) = -1 7 7 7
            index(-1|4, 0) = -2
            """);
        Edges.terms(2, 4, "A new INDEX is BUILT, if STAMP is 0; else it is BUILDING, BEGUN is the STAMP, ENTRIES come "
            + "into its MEMORY from then on.", """
            change(0, 0, 0) = -1
            define by a = 0
            index(0, 0|7|8) = 2 0 -1
            put(1, 5, 0, 0, 0) = 1
            define by a = 1
            index(1, 0|7|8|4) = 1 32 1 0
            put(2, 6, 0, 0, 0) = 2
            define by a = 2
            index(2, 0|8|4) = 1 2 0
            index(1, 4) = 1
            entry(1, NONE, 0, 0..2) = 6 2 2
            entry(0, NONE, 0..1, 1) = 1 2
            """);
        Edges.terms(2, 16, "(An INDEX that is no more: the others keep their numbers; a new one has the least number "
            + "that is free.)", """
            define by a = 0
            define by b = 1
            define by c = 2
            define by d = 3
            drop(2) = 1
            drop(0) = 1
            value(0..3, 1, 2, 4, 8) = -1 2 -1 8
            define by 7 = 0
            define by 9 = 2
            value(0..3, 1, 2, 4, 8) = 7 2 9 8
            """);
    }

    private static void tokens() {
        Edges.terms(1, 4, "TOKENS, as long as they go, blanks (10, 32) between:", """
            faults by1where2<3and4=4and a>b unique mends = 0 -1
            faults {10}{32}by{10}a{32}{10}+{10}b{10}{32} = 0 -1
            faults bya = 1 0
            faults b y a = 1 0
            faults by ab = 1 3
            faults by a whereb<1 = 1 5
            faults by a uniquemends = 1 5
            faults by a mendsa = 1 5
            faults by 1 2 = 1 5
            faults by 12 3*a = 1 6
            faults by{9}a = 1 2
            faults by a{0} = 1 4
            faults by a{11} = 1 4
            faults by a{13} = 1 4
            faults by a{31} = 1 4
            faults by a{33} = 1 4
            faults by a{160} = 1 4
            faults by a{138} = 1 4
            """);
        Edges.terms(1, 5, "words, rows of letters a .. z;", """
            faults by az = 1 3
            faults by za = 1 3
            faults by a{96} = 1 4
            faults by {96}a = 1 3
            faults by a{123} = 1 4
            faults by aB = 1 4
            faults by A = 1 3
            faults By a = 1 0
            faults by a{225} = 1 4
            """);
        Edges.terms(1, 4, "NUMBERS, 1 or 2 digits;", """
            define by 0 = 0
            define by 00*a+09 = 1
            define by 90 = 2
            define by 99*d = 3
            value(0..3, 1, 2, 4, 8) = 0 9 90 792
            faults by 1{47} = 1 4
            faults by 1{58} = 1 4
            faults by {178} = 1 3
            """);
        Edges.terms(1, 5, "(a longer row of digits is no token)", """
            faults by 100 = 1 3
            faults by 007*a = 1 3
            faults by 2*100 = 1 5
            faults by 1+1+1+100 = 1 9
            faults by 000000000000000000000000000000000000001 = 1 3
            faults by a where a<999 = 1 13
            """);
        Edges.terms(1, 5, "+ * < = > one byte.", """
            faults by a++b = 1 5
            faults by 2**a = 1 5
            faults by a where b<=1 = 1 13
            faults by a where b==1 = 1 13
            faults by a where b>>1 = 1 13
            faults by a where b<>1 = 1 13
            faults by (a) = 1 3
            faults by a,b = 1 4
            faults by a-b = 1 4
            faults by a where b;1 = 1 12
            faults by a where b?1 = 1 12
            """);
    }

    private static void grammar() {
        Edges.terms(1, 5, "INDEX' text: 'by' SUM ['where' ATOM {'and' ATOM}] ['unique'] ['mends'].", """
            faults by a = 0 -1
            faults by a unique = 0 -1
            faults by a mends = 0 -1
            faults by a unique mends = 0 -1
            faults by a where b<1 = 0 -1
            faults by a where b<1 and c<1 unique mends = 0 -1
            faults by a where b<1 mends = 0 -1
            faults  = 1 0
            faults a = 1 0
            faults where a<1 = 1 0
            faults by = 1 2
            faults by unique = 1 3
            faults by where a<1 = 1 3
            faults by a where = 1 10
            faults by a where unique = 1 11
            faults by a and b<1 = 1 5
            faults by a where b<1 and = 1 18
            faults by a where b<1 and mends = 1 19
            faults by a where b<1 c<2 = 1 15
            faults by a where b<1 where c<2 = 1 15
            faults by a mends unique = 1 11
            faults by a unique unique = 1 12
            faults by a mends mends = 1 11
            faults by a unique where b<1 = 1 12
            faults by a unique and b<1 = 1 12
            faults by a by b = 1 5
            faults by a b = 1 5
            """);
        Edges.terms(1, 5, "SUM: TERM {'+' TERM}. TERM: NUMBER | [NUMBER '*'] COLUMN. COLUMN: 'a' | 'b' | 'c' | 'd'. "
            + "ATOM: SUM ('<' | '=' | '>') SUM.", """
            faults by a+2*b+3+d where 2*a+1<b+9 and 1=2 and 0>99*d = 0 -1
            faults by +a = 1 3
            faults by a+ = 1 5
            faults by a+where = 1 5
            faults by a*2 = 1 4
            faults by 2* = 1 5
            faults by 2*3 = 1 5
            faults by 2*3*a = 1 5
            faults by 2*a*b = 1 6
            faults by 2a = 1 4
            faults by e = 1 3
            faults by a<1 = 1 4
            faults by a where b = 1 12
            faults by a where b and c<1 = 1 13
            faults by a where b c = 1 13
            faults by a where b 1 unique = 1 13
            faults by a where <1 = 1 11
            faults by a where b< = 1 13
            faults by a where b<1<2 = 1 14
            faults by a where b+1 = 1 14
            """);
    }

    private static void faults() {
        Edges.terms(1, 5, "FAULTS, the first by place (a token's first byte; the end's):", """
            faults by ab $ = 1 3
            faults by   abc + = 1 5
            faults by a$ by = 1 4
            faults by 100 a+ = 1 3
            faults by a+b+c+d+a $ = 2 11
            faults by $ a+b+c+d+a = 1 3
            faults by = 1 2
            faults by{32}{10}{32} = 1 5
            faults {10} = 1 1
            faults by a + {32} = 1 8
            """);
        Edges.terms(1, 5, "1 a byte or token with which no text goes on", """
            faults {255}by a = 1 0
            faults by{0}a = 1 2
            faults by a where b<1 $ = 1 15
            faults by a mends $ = 1 11
            faults by 99 * * = 1 8
            faults ty a = 1 0
            faults bz a = 1 0
            faults by a xhere b<1 = 1 5
            faults by a wherx b<1 = 1 5
            faults by a where b<1 xnd c<1 = 1 15
            faults by a where b<1 anx c<1 = 1 15
            faults by a xnique = 1 5
            faults by a uniqux = 1 5
            faults by a xends = 1 5
            faults by a mendx = 1 5
            faults by wher = 1 3
            faults by a wher b<1 = 1 5
            faults by a where b<1 an c<1 = 1 15
            faults by a uniqu = 1 5
            faults by a mend = 1 5
            """);
        Edges.terms(1, 5, "2 a 5th TERM of a SUM, a 4th ATOM (at its first token, if a TERM can begin with it).", """
            faults by a+b+c+d = 0 -1
            faults by 1+2*b+3+4*d = 0 -1
            faults by a+b+c+d+a = 2 11
            faults by 1+2+3+4+ 5 = 2 12
            faults by 1+2+3+4+5* = 2 11
            faults by 4*a+4*b+4*c+4*d+4*a = 2 19
            faults by a+b+c+d+ = 1 11
            faults by a+b+c+d++ = 1 11
            faults by a+b+c+d+100 = 1 11
            faults by a+b+c+d+e = 1 11
            faults by a+b+c+d+where = 1 11
            faults by a+b+c+d+$ = 1 11
            faults by a where a+b+c+d<a+b+c+d = 0 -1
            faults by a where a+b+c+d+1<2 = 2 19
            faults by a where 1<a+b+c+d+2 = 2 21
            faults by a where 1<2 and a+b+c+d+1<2 = 2 27
            faults by a where 1<2 and 1<2 and 1<2 = 0 -1
            faults by a where 1<2 and 1<2 and 1<2 and b = 2 35
            faults by a where 1<2 and 1<2 and 1<2 and 1 = 2 35
            faults by a where 1<2 and 1<2 and 1<2 and = 1 34
            faults by a where 1<2 and 1<2 and 1<2 and < = 1 35
            faults by a where 1<2 and 1<2 and 1<2 and ab = 1 35
            faults by a where 1<2 and 1<2 and 1<2 and 123 = 1 35
            faults by a where 1<2 and 1<2 and 1<2 unique = 0 -1
            """);
        Edges.promise(5, "Of the latest define(), what 0: the FAULT, 0 without, 1: its place, NONE without.", """
            fault(0..1) = 0 -1
            define by a+b+c+d+a = -1
            fault(0..1) = 2 11
            text by b
            put(1, 0, 0, 0, 0) = 1
            fault(0..1) = 2 11
            define() = 0
            fault(0..1) = 0 -1
            define b = -1
            fault(0..1) = 1 0
            """);
        Edges.promise(5, "NONE for another what.", """
            define by a+ = -1
            fault(-1|2|MIN|MAX) = -1
            define by a = 0
            fault(-1|2|MIN|MAX) = -1
            """);
    }

    private static void sets() {
        Edges.promise(6, "What 0: ROOM, 1: FAN is so much from now on: true.", """
            set(1, 2..4) = 1
            set(0, 2..12) = 1
            put(0..10, 0, 0, 0, 0)
            count(1|3) = 11 0
            put(11, 0, 0, 0, 0)
            count(1|3) = 0 1
            put(0..2, 0, 0, 0, 0)
            set(0, 3) = 1
            count(1|3) = 3 1
            flush() = 1
            count(3) = 2
            set(1, 2) = 1
            count(3) = 2
            put(0..2, 0, 0, 0, 0)
            count(3) = 2
            run(0..1, 1) = 1 0
            """);
        Edges.promise(6, "False, and nothing changes: another what, another number.", """
            set(0, 1|13|0|-1|MIN|MAX) = 0
            set(1, 1|5|0|-1|MIN|MAX) = 0
            set(-1|2|MIN|MAX, 3) = 0
            put(0..2, 0, 0, 0, 0)
            count(3) = 0
            put(3, 0, 0, 0, 0)
            count(3) = 1
            lay 4 4
            count(3) = 1
            new
            set(0, 2) = 1
            set(0, 1|13) = 0
            set(1, 4) = 1
            set(1, 1|5) = 0
            set(2, 2) = 0
            put(0, 0, 0, 0, 0)
            count(3) = 0
            put(1..5, 0, 0, 0, 0)
            count(3) = 3
            put(6..7, 0, 0, 0, 0)
            count(3) = 1
            """);
        Edges.promise(7, "An INDEX MENDS from now on, or not: true.", """
            calm
            define by a = 0
            mend(0, 1) = 1
            index(0, 2) = 1
            mend(0, 1) = 1
            mend(0, 0) = 1
            index(0, 2) = 0
            lay 1 1
            lay 1 2
            mend(0, 1) = 1
            index(0, 5) = 1
            index(0, 100..101) = 2 1
            merge(0, 0, 2) = 1
            index(0, 4|100) = 1 2
            lay 1 3
            mend(0, 0) = 1
            merge(0, 0, 2) = 1
            index(0, 4|100) = 2 2
            define by b = 1
            mend(1, 1) = 1
            index(1, 0|2) = 1 1
            """);
        Edges.promise(7, "False: there is none such.", """
            mend(-1|0|4|MIN|MAX, 0..1) = 0
            define by a = 0
            mend(-1|1|4|MIN|MAX, 1) = 0
            index(0, 2) = 0
            drop(0) = 1
            mend(0, 1) = 0
            define by b = 0
            index(0, 2) = 0
            """);
    }

    private static void values() {
        Edges.terms(1, 30, "or not, by its ATOMS;", """
            define by a+9*b where b<1 and c<1 and d<1 unique mends = 0
            value(0, 7, 5, 5, 5) = -1
            drop(0) = 1
            define by a where b<1 and c<1 and = -1
            define by 3*a = 0
            value(0, 7, 5, 5, 5) = 21
            index(0, 1..2) = 0
            drop(0) = 1
            define by b where c<9 = 0
            value(0, 7, 5, 8..9, 5) = 5 -1
            """);
        Edges.terms(1, 30, "It WANTS a ROW, if all ATOMS hold.", """
            define by a where b<c = 0
            define by a where b=c and c=d = 1
            define by a where b>c and 5>d and 2*a<31 = 2
            define by a = 3
            value(0, 7, 3, 2..4, 0) = -1 -1 7
            value(1, 7, 3, 3, 2..4) = -1 7 -1
            value(1, 7, 2..4, 3, 3) = -1 7 -1
            value(2, 7, 2..4, 3, 0) = -1 -1 7
            value(2, 7, 4, 3, 4..5) = 7 -1
            value(2, 15, 4, 3, 4) = 15
            value(3, 0|15, 0|15, 0|15, 0|15) = 0 0 0 0 0 0 0 0 15 15 15 15 15 15 15 15
            drop(3) = 1
            define by a where 2*a<30 and 1<0 and 1=1 = 3
            value(3, 0..15, 0, 0, 0) = -1
            """);
        Edges.promise(30, "Of a ROW (numbers 0 .. 15), by an INDEX: its VALUE.", """
            define by 99*a+99*b+99*c+99*d = 0
            value(0, 0, 0, 0, 0) = 0
            value(0, 15, 15, 15, 15) = 5940
            put(1, 0, 0, 0, 0) = 1
            define by 99*d+99*d+99*d+99*d = 1
            value(1, 0, 0, 0, 15) = 5940
            value(1, 15, 15, 15, 0) = 0
            """);
        Edges.promise(30, "NONE: there is none such, a number is none, or it does not WANT the ROW.", """
            value(0, 0, 0, 0, 0) = -1
            define by 7 where a<9 = 0
            value(0, 8|9, 0, 0, 0) = 7 -1
            value(-1|1|4|MIN|MAX, 0, 0, 0, 0) = -1
            value(0, -1|16|MIN|MAX, 0, 0, 0) = -1
            value(0, 0, -1|16|MIN|MAX, 0, 0) = -1
            value(0, 0, 0, -1|16|MIN|MAX, 0) = -1
            value(0, 0, 0, 0, -1|16|MIN|MAX) = -1
            drop(0) = 1
            value(0, 0, 0, 0, 0) = -1
            """);
    }
}
