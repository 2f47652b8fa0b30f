/** Boundary cases of promises 9 to 13. */
final class EdgesOfSeasons {
    /** CLAUSES have 3 WORDS, and B MOULTS now: read again and again, a is SIGNED by A and C, by C, by A and C, by nobody. */
    private static final String THREE = """
            herd(0, 10, 0, 5, 6) = 1
            herd(1, 20, 1, 2, 0) = 2
            herd(2, 7, 0, 9, 3) = 3
            """;

    private final Edges edges;

    EdgesOfSeasons(Edges edges) {
        this.edges = edges;
    }

    void all() {
        judged();
        judgeRefused();
        noSuchHerd();
        nobodySigns();
        moodIsNine();
        fewHeads();
        oneOrTwoSides();
        manyMonths();
        done();
        doneRefused();
        behind();
        behindRefused();
        readings();
        whistlesAndNets();
        joinings();
        months();
        moultingMonths();
        then();
        thenRefused();
        headsLostAndMonths();
        clausesRead();
        whoSignedAll();
        who();
        yearsOfMonths();
    }

    /** A text that is judged so, on what a run has made. */
    private static String judged(String text, String act, String why) {
        return "write " + text + "\njudge({0,1}) = " + act + " " + why + "\n";
    }

    private static String canBe(String text) {
        return judged(text, "NONE", "NONE");
    }

    private void judged() {
        edges.run(9, "JUDGED: the ACT (what = 0), why (1); NONE.", THREE
                + canBe("") + canBe("a") + canBe("aaa") + judged("aaaa", "3", "2") + canBe("."));
        edges.run(9, "JUDGED: of SEASONS the first ACT (from 0 on) that can not be, and why.", THREE
                // Of ACTS, not of signs; and of the first one, not of those behind it.
                + judged("D?", "0", "1")
                + judged("A?A&BD!", "1", "5")
                + judged("..A!A!C&AD?C?", "5", "1")
                + judged("C?D?", "0", "3")
                + judged(".".repeat(58) + "C?", "58", "3"));
        edges.run(9, "An ACT can not be for the least of these reasons", THREE
                + judged("D&D", "0", "1") + judged("B&D", "0", "1") + judged("D&B", "0", "1"));
    }

    private void judgeRefused() {
        edges.run(9, "OUTSIDE; NO: there is a FAULT.", THREE + """
                judge({-1,2,MIN,MAX}) = OUTSIDE
                write A
                judge({-1,2,MIN,MAX}) = OUTSIDE
                judge({0,1}) = NO
                # A FAULT behind an ACT that can not be is a FAULT all the same.
                write D?x
                judge({0,1}) = NO
                write D?A&
                judge({0,1}) = NO
                write D?
                judge({-1,2}) = OUTSIDE
                judge({0,1}) = 0 1
                """);
    }

    private void noSuchHerd() {
        String none = "1 there is no such HERD (one of both)";
        edges.run(9, none, judged("A?", "0", "1") + judged("F!", "0", "1") + judged("A&B", "0", "1")
                + judged("A&A", "0", "1"));
        edges.run(9, none, THREE
                + judged("D?", "0", "1") + judged("D!", "0", "1")
                + judged("A&D", "0", "1") + judged("D&A", "0", "1") + judged("E&D", "0", "1")
                // Who joined in the text is no more.
                + judged("A&CC?", "1", "1") + judged("A&CC!", "1", "1")
                + judged("A&CA&C", "1", "1") + judged("A&CC&A", "1", "1")
                + canBe("A&CA!") + canBe("C&AC!"));
    }

    private void nobodySigns() {
        String nobody = "2 nobody would SIGN (a CLAUSE)";
        edges.run(9, nobody, judged("a", "0", "2") + judged(".j", "1", "2"));
        edges.run(9, nobody, "herd(0, 1, 0, 3, 6) = 1\n" + canBe("a")
                + "herd(0, 1, 0, 2, 6) = 1\n" + judged("a", "0", "2")
                + "herd(0, 0, 0, 9, 6) = 1\n" + judged("a", "0", "2")
                + "herd(0, 1, 0, 9, 0) = 1\n" + judged("a", "0", "2") + canBe(".a")
                + "herd(0, 1, 0, 9, 1) = 1\n" + canBe("a") + judged(".a", "1", "2")
                + "clause(0, 9) = 3\n" + canBe("a") + judged("aa", "1", "2")
                + "herd(0, 1, 0, 8, 1) = 1\n" + judged("a", "0", "2")
                // What nobody SIGNS is not read in a text, so it helps no MOOD.
                + judged("aa", "0", "2")
                + "clause(0, 1) = 9\nherd(0, 1, 0, 1, 1) = 1\n" + canBe("a")
                + "herd(0, 1, 0, 0, 1) = 1\n" + judged("a", "0", "2"));
    }

    private void moodIsNine() {
        edges.run(9, "3 MOOD is 9 (?)", "herd(0, 1, 0, 9, 6) = 1\n" + judged("A?", "0", "3")
                + "herd(0, 1, 0, 8, 6) = 1\n" + canBe("A?") + judged("A?A?", "1", "3")
                + "herd(0, 1, 0, 0, 6) = 1\n" + canBe("A?A?A?") + judged("A?A?A?A?", "3", "3")
                // Neither HEADS nor MOULTS matter to a whistle.
                + "herd(0, 0, 0, 0, 0) = 1\n" + canBe("A?"));
    }

    private void fewHeads() {
        edges.run(9, "4 it has fewer than 5 HEADS (!)", "herd(0, 4, 0, 0, 6) = 1\n" + judged("A!", "0", "4")
                + "herd(0, 0, 0, 0, 6) = 1\n" + judged("A!", "0", "4")
                + "herd(0, 5, 0, 0, 6) = 1\n" + canBe("A!") + judged("A!A!", "1", "4")
                + "herd(0, 9, 0, 0, 6) = 1\n" + canBe("A!") + judged("A!A!", "1", "4") + canBe("A!.A!")
                + "herd(0, 10, 0, 0, 0) = 1\n" + canBe("A!A!")
                + "herd(0, 99, 0, 0, 0) = 1\n" + canBe("A!".repeat(19)) + judged("A!".repeat(20), "19", "4"));
    }

    private void oneOrTwoSides() {
        edges.run(9, "5 both are one, or on two SIDES (&)", THREE
                + judged("A&A", "0", "5") + judged("A&B", "0", "5") + judged("B&A", "0", "5")
                + canBe("A&C") + canBe("C&A")
                // Behind a reading A and C are on B's SIDE.
                + canBe("aA&B") + canBe("aB&AB&C") + judged("aB&AB&B", "2", "5")
                // Behind two of them C is back, but A is not.
                + judged("aaA&C", "2", "5") + canBe("aaA&B"));
    }

    /** Month 999 is more than 512 calls away, so only that no month ahead of it is refused can be due. */
    private void manyMonths() {
        edges.run(9, "6 it is month 999 (.)", "herd(0, 1, 0, 9, 6) = 1\n"
                + ("write " + ".".repeat(60) + "\njudge({0,1}) = NONE\ndone() = 60\n").repeat(5)
                + "told(2) = 300\n");
    }

    private void done() {
        edges.run(10, "SEASONS on the PAD are DONE (it is empty then): ACTS.", THREE + """
                done() = 0
                # ACTS, not signs: 4 of 7.
                write aB!.A&C
                done() = 4
                told(0) = 0
                fault() = NONE
                done() = 0
                told({1..3}) = 3 1 5
                say(46) = 1
                done() = 1
                told({0..3}) = 0 3 2 5
                """);
        edges.run(10, "DONE: all is so then.", THREE + """
                write aB!.A&C
                done() = 4
                told({1..3}) = 3 1 5
                told(10{0..3}) = 19 1 4 6
                told(11{0..3}) = 15 1 5 0
                told(12{0..3}) = OUTSIDE
                herd(2, 1, 1, 1, 1) = 3
                """);
        edges.run(10, "SEASONS on the PAD are DONE (it is empty then): ACTS.", """
                herd(0, 2, 0, 0, 6) = 1
                write %s
                done() = 60
                told({0..3}) = 0 1 60 0
                told(10{0..2}) = 57 0 9
                """.formatted(".".repeat(60)));
    }

    private void doneRefused() {
        edges.run(10, "NO: there is a FAULT, or an ACT that can not be.", THREE + """
                write A
                done() = NO
                told(0) = 1
                # Nothing of it is so, though the first ACTS can be.
                write aB!.aaaD?
                done() = NO
                told({0..3}) = 9 7 0 0
                told(10{0..3}) = 10 0 5 6
                told(11{0..3}) = 20 1 2 0
                write B!x
                done() = NO
                told({0..3}) = 3 7 0 0
                write A&CC?
                done() = NO
                told(1) = 7
                """);
    }

    private void behind() {
        edges.run(11, "BEHIND: HEADS (what = 0), SIDE (1), MOOD (2); NONE.", THREE + """
                # Of an empty PAD all is as it is now.
                behind(0, {0..2}) = 10 0 5
                behind(1, {0..2}) = 20 1 2
                behind(2, {0..2}) = 7 0 9
                write aB!.A&C
                behind(0, {0..2}) = 19 1 4
                behind(1, {0..2}) = 15 1 5
                behind(2, {0..2}) = NONE
                """);
        edges.run(11, "BEHIND, likewise, not being DONE: of a HERD (that is there now) HEADS, SIDE, MOOD", THREE + """
                write A!
                behind(0, 0) = 5
                behind(0, 0) = 5
                told({0,100,3}) = 2 10 0
                done() = 1
                behind(0, 0) = 5
                """);
        edges.run(11, "(NONE all: it joined one)", THREE + """
                write A&C
                behind(2, {0..2}) = NONE
                behind(0, {0..2}) = 17 0 5
                write C&A
                behind(0, {0..2}) = NONE
                behind(2, {0..2}) = 17 0 9
                write aB&AB&C
                behind({0,2}, {0..2}) = NONE
                behind(1, {0..2}) = 37 1 3
                """);
    }

    private void behindRefused() {
        edges.run(11, "UNKNOWN: it is not there; OUTSIDE; NO, as of done().", THREE + """
                behind({-1,3,5,6,MIN,MAX}, {0,-1,3}) = UNKNOWN
                behind(0, {-1,3,MIN,MAX}) = OUTSIDE
                write A
                behind({-1,3,6}, {0,-1,3}) = UNKNOWN
                behind(0, {-1,3,MIN,MAX}) = OUTSIDE
                behind(0, {0..2}) = NO
                write A!D?
                behind({3,6}, {0,3}) = UNKNOWN
                behind(0, {-1,3}) = OUTSIDE
                behind({0..2}, {0..2}) = NO
                # It joined one in fact: it is not there.
                write A&C
                done() = 1
                behind(2, {0,3}) = UNKNOWN
                """);
    }

    private void readings() {
        String signs = "a CLAUSE's letter (it is read: each HERD that does not MOULT now, has HEADS, "
                + "and MOOD of as much as its WORDS at least, SIGNS it";
        edges.run(11, signs, """
                herd(0, 1, 0, 3, 11) = 1
                herd(1, 1, 0, 2, 11) = 2
                herd(2, 0, 0, 8, 11) = 3
                herd(3, 1, 1, 7, 0) = 4
                herd(4, 99, 1, 9, 1) = 5
                write a
                behind(0, {0..2}) = 1 1 0
                behind(1, {0..2}) = 1 0 3
                behind(2, {0..2}) = 0 0 9
                behind(3, {0..2}) = 1 1 8
                behind(4, {0..2}) = 99 0 6
                then(4) = 17
                """);
        edges.run(11, "it is on the other SIDE then, MOOD is less by the WORDS", """
                clause(0, 9) = 3
                clause(1, 1) = 3
                herd(0, 1, 0, 9, 6) = 1
                herd(1, 1, 1, 9, 6) = 2
                write a
                behind(0, {1,2}) = 1 0
                behind(1, {1,2}) = 0 0
                write b
                behind(0, {1,2}) = 1 8
                behind(1, {1,2}) = 0 8
                write bbbbbbbbb
                behind(0, {1,2}) = 1 0
                behind(1, {1,2}) = 0 0
                """);
        edges.run(11, "each other HERD has MOOD 1 more, 9 at most)", """
                herd(0, 1, 0, 9, 6) = 1
                herd(1, 5, 0, 0, 6) = 2
                herd(2, 5, 0, 2, 6) = 3
                herd(3, 5, 0, 8, 0) = 4
                herd(4, 5, 0, 9, 0) = 5
                herd(5, 0, 0, 9, 6) = 6
                write a
                behind({0..5}, 2) = 6 1 3 9 9 9
                behind({0..5}, 1) = 1 0 0 0 0 0
                behind({0..5}, 0) = 1 5 5 5 5 0
                """);
    }

    private void whistlesAndNets() {
        edges.run(11, "(a whistle: MOOD is 3 more, 9 at most)", """
                herd(0, 5, 0, 0, 0) = 1
                herd(1, 5, 0, 5, 0) = 2
                herd(2, 5, 0, 6, 0) = 3
                herd(3, 5, 1, 7, 6) = 4
                herd(4, 0, 1, 8, 6) = 5
                write A?B?C?D?E?
                behind({0..4}, 2) = 3 8 9 9 9
                behind({0..4}, 1) = 0 0 0 1 1
                behind({0..4}, 0) = 5 5 5 5 0
                # Of nobody else.
                write A?
                behind({0..4}, 2) = 3 5 6 7 8
                """);
        edges.run(11, "! (a net: HEADS are 5 less; LOST HEADS 5 more)", """
                herd(0, 5, 0, 1, 0) = 1
                herd(1, 99, 1, 2, 6) = 2
                write A!
                behind(0, {0..2}) = 0 0 1
                behind(1, 0) = 99
                then(1) = 5
                write A!B!B!
                behind(1, {0..2}) = 89 1 2
                then({0,1}) = 89 15
                done() = 3
                told({3,100,110}) = 15 0 89
                write B!
                then(1) = 20
                """);
    }

    private void joinings() {
        edges.run(11, "(that one joins it: its HEADS come to it, 99 at most, and it is no more)", """
                herd(0, 50, 0, 1, 1) = 1
                herd(1, 48, 0, 9, 2) = 2
                write A&B
                behind(0, {0..2}) = 98 0 1
                herd(1, 49, 0, 9, 2) = 2
                behind(0, {0..2}) = 99 0 1
                herd(1, 50, 0, 9, 2) = 2
                behind(0, {0..2}) = 99 0 1
                herd(1, 99, 0, 9, 2) = 2
                behind(0, {0..2}) = 99 0 1
                herd(1, 0, 0, 9, 2) = 2
                behind(0, {0..2}) = 50 0 1
                done() = 1
                told(1) = 1
                told(10{0..3}) = 50 0 1 1
                told(11{0..3}) = OUTSIDE
                told(3) = 0
                """);
        edges.run(11, "(that one joins it: its HEADS come to it, 99 at most, and it is no more)", """
                herd({0..5}, 99, 1, 0, 0) = 1..6
                write F&AF&BF&CF&DF&E
                behind({0..5}, 0) = NONE NONE NONE NONE NONE 99
                then({0,1,4}) = 99 0 63
                done() = 5
                told(1) = 32
                """);
    }

    private void months() {
        edges.run(11, ". (a month: each HERD has MOOD 2 more, 9 at most", """
                herd(0, 0, 0, 0, 6) = 1
                herd(1, 1, 0, 6, 0) = 2
                herd(2, 1, 1, 7, 0) = 3
                herd(3, 1, 1, 8, 6) = 4
                herd(4, 1, 1, 9, 6) = 5
                write .
                behind({0..4}, 2) = 2 8 9 9 9
                behind({0..4}, 1) = 0 0 1 1 1
                behind({0..4}, 0) = 0 1 1 1 1
                """);
        edges.run(11, "and, if it has 2 HEADS at least, and does not MOULT in the month that is over, "
                + "1 HEAD more, 99 at most", """
                herd({0..5}, 1, 0, 0, 6) = 1..6
                herd(0, 0, 0, 0, 6) = 6
                herd(2, 2, 0, 0, 6) = 6
                herd(3, 98, 0, 0, 6) = 6
                herd(4, 99, 0, 0, 6) = 6
                herd(5, 2, 0, 0, 0) = 6
                write .
                behind({0..5}, 0) = 0 1 3 99 99 2
                write ..
                behind({0..5}, 0) = 0 1 4 99 99 3
                """);
    }

    private void moultingMonths() {
        edges.run(11, "does not MOULT in the month that is over", """
                herd(0, 10, 0, 0, 0) = 1
                herd(1, 10, 0, 0, 1) = 2
                herd(2, 10, 0, 0, 11) = 3
                write .
                behind({0..2}, 0) = 10 11 11
                write ..
                behind({0..2}, 0) = 11 11 12
                write ...........
                behind({0..2}, 0) = 20 20 21
                write ............
                behind({0..2}, 0) = 21 21 21
                write .............
                behind({0..2}, 0) = 21 22 22
                write ..............
                behind({0..2}, 0) = 22 22 23
                """);
    }

    private void then() {
        edges.run(12, "BEHIND: HEADS on SIDE 1 (what = 0), LOST ones (1), the month (2), "
                + "CLAUSES read (3), who SIGNED all (4).", THREE + """
                then({0..4}) = 20 0 0 0 7
                write aB!.A&C
                then({0..4}) = 34 5 1 1 5
                then({0..4}) = 34 5 1 1 5
                told({0..3}) = 7 7 0 0
                done() = 4
                then({0..4}) = 34 5 1 0 3
                """);
    }

    private void thenRefused() {
        edges.run(12, "OUTSIDE; NO, likewise.", THREE + """
                then({-1,5,MIN,MAX}) = OUTSIDE
                write A
                then({-1,5,MIN,MAX}) = OUTSIDE
                then({0..4}) = NO
                write A!D?
                then({-1,5}) = OUTSIDE
                then({0..4}) = NO
                write D?x
                then({0..4}) = NO
                wipe() = 3
                then({0..4}) = 20 0 0 0 7
                """);
    }

    private void headsLostAndMonths() {
        edges.run(12, "of all: HEADS on SIDE 1", """
                then(0) = 0
                herd({0..5}, 99, 1, 9, 6) = 1..6
                then(0) = 594
                write a
                then(0) = 0
                write aa
                then(0) = 594
                write A!
                then(0) = 589
                write A&B
                then(0) = 495
                herd(0, 1, 0, 0, 0) = 6
                write
                then(0) = 495
                """);
        edges.run(12, "LOST HEADS, the month", """
                herd(0, 99, 0, 0, 0) = 1
                write A!A!..
                then({1,2}) = 10 2
                done() = 4
                then({1,2}) = 10 2
                write A!.
                then({1,2}) = 15 3
                write %s
                then({1,2}) = 10 62
                """.formatted(".".repeat(60)));
    }

    /** Of two HERDS that SIGN by turns a CLAUSE of one WORD can be read for ever. */
    private void clausesRead() {
        String read = "how many CLAUSES were read in the text";
        edges.run(12, read, THREE + """
                then(3) = 0
                write .A?
                then(3) = 0
                write a
                then(3) = 1
                write abc
                then(3) = 3
                # One that is read twice was read twice.
                write a.a
                then(3) = 2
                # In the text, not ahead of it.
                done() = 3
                then(3) = 0
                """);
        edges.run(12, read, """
                clause(0, 1) = 3
                herd(0, 1, 0, 1, 6) = 1
                herd(1, 1, 0, 0, 6) = 2
                write %s
                then({3,4}) = 60 0
                behind({0,1}, 1) = 0
                """.formatted("a".repeat(60)));
    }

    private void whoSignedAll() {
        edges.run(12, "none was read: all)", """
                then(4) = 0
                write .
                then(4) = 0
                herd({0..5}, 1, 0, 0, 0) = 1..6
                then(4) = 63
                # HERDS that are there now, be it that they join one in the text.
                write A?A&B.
                then(4) = 63
                """);
        edges.run(12, "HERDS that SIGNED all of these (bits; of HERDS that are there now;", THREE + """
                write a
                then(4) = 5
                write aa
                then(4) = 4
                write aaa
                then(4) = 4
                # Who SIGNED and then joined one has SIGNED; who joined ahead of it has not.
                write aA&C
                then(4) = 5
                write A&Ca
                then(4) = 1
                write a.b
                then(4) = 5
                """);
        edges.run(12, "HERDS that SIGNED all of these", """
                # Each is SIGNED by one, and none SIGNED both.
                herd(0, 1, 0, 3, 6) = 1
                herd(5, 1, 0, 2, 6) = 2
                write a
                then(4) = 1
                write ab
                then({3,4}) = 2 0
                """);
    }

    private void who() {
        edges.run(13, "WHO would SIGN, as bits. UNKNOWN.", """
                who({-1,10,MIN,MAX}) = UNKNOWN
                who({0,9}) = 0
                clause(0, 1) = 3
                clause(9, 9) = 3
                herd(0, 1, 0, 1, 6) = 1
                herd(1, 1, 0, 0, 6) = 2
                herd(2, 99, 1, 9, 6) = 3
                herd(3, 1, 1, 8, 6) = 4
                herd(4, 0, 1, 9, 6) = 5
                herd(5, 1, 1, 9, 0) = 6
                who({0,1,9}) = 13 12 4
                who({-1,10,MIN,MAX}) = UNKNOWN
                """);
        edges.run(13, "WHO: of a CLAUSE, were it read now, HERDS that would SIGN (bits).", THREE + """
                # The PAD does not matter, be it a text or not.
                who(0) = 5
                write .
                who(0) = 5
                write A
                who(0) = 5
                write .
                done() = 1
                who(0) = 7
                herd({0..5}, 1, 0, 3, 6) = 3 3 3 4 5 6
                who(0) = 63
                """);
    }

    private void yearsOfMonths() {
        String wrap = "(of a year: left over by 12)";
        edges.run(13, wrap, """
                herd(0, 9, 0, 9, 11) = 1
                herd(1, 9, 0, 9, 0) = 2
                herd(2, 9, 0, 9, 1) = 3
                who(0) = 5
                write ...........
                done() = 11
                told(2) = 11
                who(0) = 6
                write .
                done() = 1
                # The month is 12, which is month 0 of a year.
                told(2) = 12
                who(0) = 5
                write .
                done() = 1
                told(2) = 13
                who(0) = 3
                write ..........
                done() = 10
                who(0) = 6
                write .
                done() = 1
                told(2) = 24
                who(0) = 5
                """);
        edges.run(12, wrap, """
                herd(0, 9, 0, 9, 0) = 1
                herd(1, 9, 0, 9, 11) = 2
                write ...........a
                then({2..4}) = 11 1 1
                write ............a
                then({2..4}) = 12 1 2
                """);
    }
}
