/** Boundary cases of promises 1 to 8. */
final class EdgesOfHerds {
    private final Edges edges;

    EdgesOfHerds(Edges edges) {
        this.edges = edges;
    }

    void all() {
        newObject();
        newObjectsValues();
        objectsAreApart();
        herdNumbers();
        herdTraits();
        herdsThere();
        clauses();
        clashes();
        rocks();
        say();
        sayOnAFullPad();
        wipe();
        fault();
        faultsOfAllSigns();
    }

    private void newObject() {
        edges.run(1, "An empty strait.", """
                told({0..4}) = 0
                wipe() = 0
                fault() = NONE
                judge({0,1}) = NONE
                done() = 0
                then({0..4}) = 0
                who({0..9}) = 0
                went({-2..1}) = NONE 1 0 NONE
                ask({0,1}) = 0 1
                forget() = 0
                restore({0,1}) = STATE
                drop(1023, {0,1}) = 0
                year(0, 99, {0..2}) = 0
                """);
        edges.run(1, "none of which are there at first", """
                told(1) = 0
                told(1{0..5}{0..3}) = OUTSIDE
                behind({0..5}, {0..2}) = UNKNOWN
                share({0..5}, 0) = UNKNOWN
                bring(0, 0, {1..5}, 0, 0) = UNKNOWN
                """);
    }

    private void newObjectsValues() {
        edges.run(1, "have WORDS (1 to 9; 3 at first)", """
                told(1{0..9}) = 3
                turning({2..3}, 0) = 0 1
                """);
        edges.run(1, "each two of them CLASH or not (not, at first)", """
                told(2{0..9}) = 0
                drop(1023, {0,1}) = 0
                """);
        edges.run(1, "It is month 0 at first", """
                herd(0, 1, 0, 9, 11) = 1
                herd(1, 1, 0, 9, 0) = 2
                herd(2, 1, 0, 9, 1) = 3
                told(2) = 0
                then(2) = 0
                who(0) = 5
                """);
        edges.run(1, "LOST HEADS are 0 at first.", """
                told(3) = 0
                then(1) = 0
                year(0, 1, 1) = 0
                """);
        edges.run(1, "off each some HERDS are seen (bits; all, at first)", """
                told(3{0..5}) = 63
                """);
    }

    private void objectsAreApart() {
        edges.of(1, "An empty strait.");
        SealStrait one = new SealStrait();
        for (Calls.Call call : Calls.of("""
                herd(0, 10, 1, 5, 6)
                clause(0, 9)
                clash(0, 1, true)
                rock(0, 1)
                counted(0, 10)
                image(0)
                write .A!
                done()
                write A
                """)) {
            call.on(one);
        }
        SealStrait other = new SealStrait();
        for (Calls.Call call : Calls.of("""
                told({0..4}) = 0
                told(10) = 3
                told(20) = 0
                told(30) = 63
                told(100) = OUTSIDE
                restore(0) = STATE
                fault() = NONE
                """)) {
            edges.is("another object's " + call.text(), call.on(other), call.due());
        }
    }

    private void herdNumbers() {
        edges.run(2, "HERDS 0 to 5 (A to F)", """
                herd({-1,6,MIN,MAX}, 1, 0, 0, 0) = UNKNOWN
                told(1) = 0
                herd(0, 11, 0, 0, 0) = 1
                herd(5, 16, 0, 0, 0) = 2
                herd({-1,6}, 1, 0, 0, 0) = UNKNOWN
                told(1) = 33
                write A!
                behind({0,5}, 0) = 6 16
                write F!
                behind({0,5}, 0) = 11 11
                """);
        edges.run(2, "UNKNOWN; OUTSIDE.", """
                # UNKNOWN comes ahead of OUTSIDE, whatever else is wrong.
                herd({-1,6}, {-1,100}, {-1,2}, {-1,10}, {-1,12}) = UNKNOWN
                herd(6, 0, 0, 0, 12) = UNKNOWN
                herd(0, 100, 2, 10, 12) = OUTSIDE
                told(1) = 0
                """);
    }

    private void herdTraits() {
        edges.run(2, "each has HEADS (0 to 99)", """
                herd(2, 0, 1, 4, 7) = 1
                told(12{0..3}) = 0 1 4 7
                herd(2, 99, 1, 4, 7) = 1
                herd(2, {-1,100,MIN,MAX}, 0, 0, 0) = OUTSIDE
                told(12{0..3}) = 99 1 4 7
                herd(3, {-1,100}, 0, 0, 0) = OUTSIDE
                told(1) = 4
                """);
        edges.run(2, "is on SIDE 0 or 1", """
                herd(2, 5, 0, 4, 7) = 1
                told(12{0..3}) = 5 0 4 7
                herd(2, 5, 1, 4, 7) = 1
                herd(2, 0, {-1,2,MIN,MAX}, 0, 0) = OUTSIDE
                told(12{0..3}) = 5 1 4 7
                herd(3, 0, {-1,2}, 0, 0) = OUTSIDE
                told(1) = 4
                """);
        edges.run(2, "in a MOOD of 0 to 9", """
                herd(2, 5, 1, 0, 7) = 1
                told(12{0..3}) = 5 1 0 7
                herd(2, 5, 1, 9, 7) = 1
                herd(2, 0, 0, {-1,10,MIN,MAX}, 0) = OUTSIDE
                told(12{0..3}) = 5 1 9 7
                herd(3, 0, 0, {-1,10}, 0) = OUTSIDE
                told(1) = 4
                """);
        edges.run(2, "MOULTS in one month 0 to 11", """
                herd(2, 5, 1, 4, 0) = 1
                told(12{0..3}) = 5 1 4 0
                herd(2, 5, 1, 4, 11) = 1
                herd(2, 0, 0, 0, {-1,12,MIN,MAX}) = OUTSIDE
                told(12{0..3}) = 5 1 4 11
                herd(3, 0, 0, 0, {-1,12}) = OUTSIDE
                told(1) = 4
                """);
    }

    private void herdsThere() {
        edges.run(2, "A HERD is there (or anew): how many are.", """
                herd({0..5}, 1, 0, 0, 0) = 1..6
                told(1) = 63
                herd({0..5}, 2, 1, 9, 11) = 6
                told(1{0..5}0) = 2
                told(1{0..5}1) = 1
                told(1{0..5}2) = 9
                told(1{0..5}3) = 11
                # Who joined another one is no more, and can be there anew.
                write A&B
                done() = 1
                told(1) = 61
                told(11{0..3}) = OUTSIDE
                herd(0, 1, 0, 0, 0) = 5
                herd(1, 7, 0, 3, 2) = 6
                told(11{0..3}) = 7 0 3 2
                """);
    }

    private void clauses() {
        edges.run(3, "CLAUSES 0 to 9 (a to j)", """
                clause({-1,10,MIN,MAX}, 1) = UNKNOWN
                told(1{0..9}) = 3
                clause(0, 1) = 3
                clause(9, 2) = 3
                told(1{0..9}) = 1 3 3 3 3 3 3 3 3 2
                herd(0, 1, 0, 9, 6) = 1
                write a
                behind(0, 2) = 8
                write j
                behind(0, 2) = 7
                """);
        edges.run(3, "have WORDS (1 to 9; 3 at first)", """
                clause(4, {0,10,-1,MIN,MAX}) = OUTSIDE
                told(14) = 3
                clause(4, 1) = 3
                clause(4, {0,10}) = OUTSIDE
                clause(4, 9) = 1
                told(14) = 9
                """);
        edges.run(3, "WORDS of a CLAUSE: how many it had.", """
                clause({0..9}, 1) = 3
                clause({0..9}, 9) = 1
                clause({0..9}, 9) = 9
                clause({0..9}, 3) = 9
                told(1{0..9}) = 3
                """);
        edges.run(3, "UNKNOWN; OUTSIDE.", """
                clause({-1,10}, {0,10}) = UNKNOWN
                clause({0,9}, {0,10}) = OUTSIDE
                told(1{0..9}) = 3
                """);
    }

    private void clashes() {
        edges.run(4, "Two CLAUSES CLASH (is true), or not: how many do, two by two.", """
                clash(0, 1, false) = 0
                clash(0, 9, true) = 1
                # Two by two: which of both is told first does not matter.
                clash(9, 0, true) = 1
                told(20) = 512
                told(29) = 1
                clash(9, 0, false) = 0
                told({20,29}) = 0
                clash(0, 9, false) = 0
                """);
        edges.run(4, "each two of them CLASH or not", """
                clash(0, {1..9}, true) = 1..9
                clash(1, {2..9}, true) = 10..17
                clash(2, {3..9}, true) = 18..24
                clash(3, {4..9}, true) = 25..30
                clash(4, {5..9}, true) = 31..35
                clash(5, {6..9}, true) = 36..39
                clash(6, {7..9}, true) = 40..42
                clash(7, {8..9}, true) = 43..44
                clash(8, 9, true) = 45
                told(2{0..9}) = 1022 1021 1019 1015 1007 991 959 895 767 511
                clash(9, {0..8}, true) = 45
                clash(9, {0..8}, false) = 44 43 42 41 40 39 38 37 36
                told(2{0..9}) = 510 509 507 503 495 479 447 383 255 0
                """);
        edges.run(4, "UNKNOWN: both, also one.", """
                clash({-1,10,32,MIN,MAX}, 3, true) = UNKNOWN
                clash(3, {-1,10,32,MIN,MAX}, true) = UNKNOWN
                clash({-1,10}, {-1,10}, true) = UNKNOWN
                clash(0, 0, {true,false}) = UNKNOWN
                clash(9, 9, {true,false}) = UNKNOWN
                told(2{0..9}) = 0
                clash(3, 4, true) = 1
                clash(3, {3,10}, false) = UNKNOWN
                told({23,24}) = 16 8
                """);
    }

    private void rocks() {
        edges.run(5, "ROCKS 0 to 5", """
                rock({-1,6,MIN,MAX}, 0) = UNKNOWN
                told(3{0..5}) = 63
                rock(0, 1) = 63
                rock(5, 2) = 63
                told(3{0..5}) = 1 63 63 63 63 2
                """);
        edges.run(5, "HERDS that are seen off a ROCK (bits 0 to 63): which were.", """
                rock(3, {-1,64,MIN,MAX}) = OUTSIDE
                rock(3, 0) = 63
                rock(3, {-1,64}) = OUTSIDE
                rock(3, 63) = 0
                rock(3, 32) = 63
                # Also HERDS that are not there.
                told({1,33}) = 0 32
                """);
        edges.run(5, "UNKNOWN; OUTSIDE.", """
                rock({-1,6}, {-1,64}) = UNKNOWN
                rock({0,5}, {-1,64}) = OUTSIDE
                told(3{0..5}) = 63
                """);
    }

    private void say() {
        edges.run(6, "codes 33 to 126", """
                say({32,127,0,-1,MIN,MAX}) = OUTSIDE
                told(0) = 0
                say({33..79}) = 1..47
                wipe() = 47
                say({80..126}) = 1..47
                say({32,127}) = OUTSIDE
                told(0) = 47
                """);
        edges.run(6, "A sign more: how many.", """
                # A sign that can not stand there is a sign more, too.
                say(126) = 1
                fault() = 0
                say(97) = 2
                fault() = 0
                told(0) = 2
                """);
    }

    private void sayOnAFullPad() {
        edges.run(6, "60 SIGNS at most", """
                write %s
                say(46) = 60
                say({46,97,33,126}) = FULL
                told(0) = 60
                fault() = NONE
                then(2) = 60
                wipe() = 60
                say(46) = 1
                """.formatted(".".repeat(59)));
        edges.run(6, "OUTSIDE; FULL.", """
                write %s
                say({32,127,MIN,MAX}) = OUTSIDE
                say({33,126}) = FULL
                told(0) = 60
                """.formatted("a".repeat(60)));
    }

    private void wipe() {
        edges.run(7, "Signs go: how many there were.", """
                wipe() = 0
                say(97) = 1
                wipe() = 1
                wipe() = 0
                told(0) = 0
                fault() = NONE
                # Signs with a FAULT go likewise, and nothing else goes.
                herd(0, 10, 1, 5, 6) = 1
                counted(0, 10) = 1
                write A&x
                fault() = 2
                wipe() = 3
                told({0,1,4}) = 0 1 1
                fault() = NONE
                judge(0) = NONE
                """);
        edges.run(7, "Signs go: how many there were.", """
                write %s
                wipe() = 60
                wipe() = 0
                say(65) = 1
                fault() = 1
                wipe() = 1
                write .
                done() = 1
                wipe() = 0
                """.formatted("A".repeat(60)));
    }

    private void faultOf(String sentence, String text, int place) {
        edges.run(8, sentence, "write " + text + "\nfault() = " + place + "\ntold(0) = " + text.length() + "\n");
    }

    private void fault() {
        edges.run(8, "(an empty PAD has none)", """
                fault() = NONE
                write x
                fault() = 0
                wipe() = 1
                fault() = NONE
                """);
        String more = "the number of signs, if more must come";
        faultOf(more, "A", 1);
        faultOf(more, "F&", 2);
        faultOf(more, ".A", 2);
        faultOf(more, "A?A&", 4);
        faultOf(more, ".".repeat(59) + "A", 60);
        faultOf(more, ".".repeat(58) + "A&", 60);
        String first = "THE FAULT: the place (from 0 on) of the first sign that can not stand there";
        faultOf(first, "x", 0);
        faultOf(first, "xA", 0);
        faultOf(first, ".x", 1);
        faultOf(first, "A.A", 1);
        faultOf(first, "A&.A&", 2);
        faultOf(first, "A&B?", 3);
        faultOf(first, "A??", 2);
        faultOf(first, ".".repeat(59) + "x", 59);
        faultOf(first, "A&B".repeat(19) + "A&x", 59);
        String none = "THE FAULT; NONE.";
        String acts = "SEASONS are a text on a PAD (60 SIGNS at most, codes 33 to 126) of ACTS";
        faultOf(acts, "j".repeat(60), SealStrait.NONE);
        faultOf(acts, "F!".repeat(30), SealStrait.NONE);
        faultOf(acts, "F&A".repeat(20), SealStrait.NONE);
        faultOf(none, "a.F?jE!D&C.", SealStrait.NONE);
        faultOf(none, "A&B".repeat(20), SealStrait.NONE);
        // What can not be is no FAULT: no HERD is there, and nobody would SIGN.
        faultOf(none, "A&A", SealStrait.NONE);
        faultOf(none, "aA?A!", SealStrait.NONE);
    }

    /** Each sign as the first one, behind a HERD's letter, and behind the sign of joining. */
    private void faultsOfAllSigns() {
        for (char sign = 33; sign <= 126; sign++) {
            boolean isHerd = "ABCDEF".indexOf(sign) >= 0;
            boolean isClause = "abcdefghij".indexOf(sign) >= 0;
            int alone = isClause || sign == '.' ? SealStrait.NONE : isHerd ? 1 : 0;
            faultOf("of ACTS: a CLAUSE's letter", "" + sign, alone);
            int behindHerd = sign == '?' || sign == '!' ? SealStrait.NONE : sign == '&' ? 2 : 1;
            faultOf("a HERD's letter and: ?", "C" + sign, behindHerd);
            faultOf("or & and a HERD's letter", "C&" + sign, isHerd ? SealStrait.NONE : 2);
        }
    }
}
