/** Boundary cases of promises 14 to 18. */
final class EdgesOfBringing {
    private static final String THREE = """
            herd(0, 10, 0, 5, 6) = 1
            herd(1, 20, 1, 2, 0) = 2
            herd(2, 7, 0, 9, 3) = 3
            """;

    private final Edges edges;

    EdgesOfBringing(Edges edges) {
        this.edges = edges;
    }

    void all() {
        bring();
        bringFirst();
        bringByReadingToNobody();
        bringNever();
        bringRefused();
        drop();
        dropRefused();
        share();
        shareOfSeveral();
        shareRefused();
        waiting();
        waitingRefused();
        reads();
        readsRefused();
    }

    private void bring() {
        edges.run(14, "BRING: how many (what = 0), the first (1); NONE.", THREE + """
                bring(0, 1, 2, 1, {0,1}) = 1 0
                bring(0, 1, 2, 0, {0,1}) = 2 0
                bring(0, 0, 2, 1, {0,1}) = 3 0
                bring(2, 1, 0, 0, {0,1}) = 3 0
                """);
        edges.run(14, "by which both are: how many (0: they are)", THREE + """
                bring(0, 0, 2, 0, {0,1}) = 0 NONE
                bring(2, 0, 0, 0, {0,1}) = 0 NONE
                bring(0, 0, 1, 1, {0,1}) = 0 NONE
                # Also such as would not SIGN.
                herd(3, 0, 1, 0, 0) = 4
                bring(1, 1, 3, 1, {0,1}) = 0 NONE
                """);
        edges.run(14, "(As things are now.)", THREE + """
                # B MOULTS now, so it stays where it is, whatever is on the PAD.
                bring(1, 0, 2, 1, {0,1}) = NONE
                write .
                bring(1, 0, 2, 1, {0,1}) = NONE
                write A
                bring(1, 0, 2, 1, {0,1}) = NONE
                write .
                done() = 1
                bring(1, 0, 2, 1, {0,1}) = 1 0
                """);
    }

    private void bringFirst() {
        edges.run(14, "the first CLAUSE, the least by which it is as few (NONE: 0); NONE.", THREE + """
                clause(4, 9) = 3
                clause(7, 6) = 3
                # By e and by h only C SIGNS.
                bring(0, 0, 2, 1, {0,1}) = 1 4
                clause(4, 3) = 9
                bring(0, 0, 2, 1, {0,1}) = 1 7
                clause(7, 3) = 6
                # a first would leave C without the MOOD to come back at once.
                clause(0, 9) = 3
                bring(0, 1, 2, 0, {0,1}) = 2 1
                # By a alone both do not cross.
                bring(0, 1, 2, 1, {0,1}) = 1 1
                clause({1..8}, 9) = 3
                bring(0, 1, 2, 1, {0,1}) = 1 9
                """);
        edges.run(14, "the fewest CLAUSES read, one behind another", """
                # Of 9 WORDS: four that nobody SIGNS, then one; i of 5 WORDS does it at once.
                clause({0..9}, 9) = 3
                herd(0, 1, 0, 5, 6) = 1
                herd(1, 1, 0, 0, 0) = 2
                bring(0, 1, 1, 0, {0,1}) = 5 0
                clause(8, 5) = 9
                bring(0, 1, 1, 0, {0,1}) = 1 8
                clause(8, 6) = 5
                bring(0, 1, 1, 0, {0,1}) = 2 0
                """);
    }

    private void bringByReadingToNobody() {
        edges.run(14, "one as often as one likes (be it that nobody SIGNS)", """
                clause({0..9}, 9) = 3
                herd(0, 1, 0, 0, 6) = 1
                herd(1, 1, 0, 0, 6) = 2
                # Nine that nobody SIGNS, and one that both do.
                bring(0, 1, 1, 1, {0,1}) = 10 0
                herd(1, 1, 0, 4, 6) = 2
                bring(0, 0, 1, 1, {0,1}) = 6 0
                bring(0, 1, 1, 1, {0,1}) = 10 0
                bring(0, 1, 1, 0, {0,1}) = 16 0
                # 1 more, but 9 at most: who has 9 and does not listen keeps 9.
                herd(1, 1, 0, 9, 0) = 2
                bring(0, 1, 1, 0, {0,1}) = 10 0
                """);
    }

    private void bringNever() {
        edges.run(14, "BRING: two HERDS should be on told SIDES", """
                # Two that are alike are never parted.
                herd(0, 1, 0, 3, 6) = 1
                herd(5, 1, 0, 3, 6) = 2
                bring(0, 1, 5, 0, {0,1}) = NONE
                bring(0, 0, 5, 1, {0,1}) = NONE
                bring(0, 1, 5, 1, {0,1}) = 1 0
                # Neither one without HEADS nor one that MOULTS now ever comes to the other SIDE.
                herd(5, 0, 0, 9, 6) = 2
                bring(0, 1, 5, 1, {0,1}) = NONE
                bring(0, 1, 5, 0, {0,1}) = 1 0
                herd(5, 9, 0, 9, 0) = 2
                bring(0, 1, 5, 1, {0,1}) = NONE
                bring(5, 1, 0, 0, {0,1}) = NONE
                bring(5, 0, 0, 1, {0,1}) = 1 0
                """);
    }

    private void bringRefused() {
        edges.run(14, "UNKNOWN: both, also one; OUTSIDE: SIDES, what.", THREE + """
                bring({-1,3,5,6,MIN,MAX}, 0, 1, 0, 0) = UNKNOWN
                bring(1, 0, {-1,3,5,6,MIN,MAX}, 0, 0) = UNKNOWN
                bring(0, 0, 0, {0,1}, 0) = UNKNOWN
                bring(2, {0,2}, 2, 0, {0,2}) = UNKNOWN
                bring(3, 2, 3, 2, 2) = UNKNOWN
                bring({0,3}, {-1,2}, 3, {-1,2}, {-1,2}) = UNKNOWN
                bring(0, {-1,2,MIN,MAX}, 1, 0, 0) = OUTSIDE
                bring(0, 0, 1, {-1,2,MIN,MAX}, 0) = OUTSIDE
                bring(0, 0, 1, 1, {-1,2,MIN,MAX}) = OUTSIDE
                """);
    }

    private void drop() {
        edges.run(15, "DROP: how many (what = 0), which (1).", """
                drop({0,1,512,1023}, {0,1}) = 0
                clash(0, 9, true) = 1
                drop(513, {0,1}) = 1 1
                drop(1023, {0,1}) = 1 1
                # Not both are in the set.
                drop({0,1,512,1022,511}, {0,1}) = 0
                clash(0, 9, false) = 0
                drop(1023, {0,1}) = 0
                """);
        edges.run(15, "DROP: of a set of CLAUSES the fewest to be dropped so that no two of the others CLASH: how many; "
                + "which, least as bits of as few.", """
                # j CLASHES with three: one that is dropped is fewer than three, though greater as bits.
                clash(9, {0..2}, true) = 1 2 3
                drop(1023, {0,1}) = 1 512
                drop(515, {0,1}) = 1 512
                drop(513, {0,1}) = 1 1
                clash(9, {0..2}, false) = 2 1 0
                # A ring of five wants three.
                clash(0, {1,4}, true) = 1 2
                clash(2, {1,3}, true) = 3 4
                clash(3, 4, true) = 5
                drop(31, {0,1}) = 3 11
                drop(1023, {0,1}) = 3 11
                drop(30, {0,1}) = 2 10
                drop(15, {0,1}) = 2 5
                """);
        edges.run(15, "least as bits of as few.", """
                clash(0, {1..9}, true) = 1..9
                clash(1, {2..9}, true) = 10..17
                clash(2, {3..9}, true) = 18..24
                clash(3, {4..9}, true) = 25..30
                clash(4, {5..9}, true) = 31..35
                clash(5, {6..9}, true) = 36..39
                clash(6, {7..9}, true) = 40..42
                clash(7, {8..9}, true) = 43..44
                clash(8, 9, true) = 45
                # All CLASH: one of a set can stay, the greatest.
                drop(1023, {0,1}) = 9 511
                drop(768, {0,1}) = 1 256
                drop(7, {0,1}) = 2 3
                drop({0,1,512}, {0,1}) = 0
                """);
    }

    private void dropRefused() {
        edges.run(15, "OUTSIDE: the set 0 to 1023, what.", """
                clash(0, 1, true) = 1
                drop({-1,1024,MIN,MAX}, {0,1}) = OUTSIDE
                drop(3, {-1,2,MIN,MAX}) = OUTSIDE
                drop(1024, 2) = OUTSIDE
                """);
    }

    private void share() {
        edges.run(16, "SHARES: r (0 to 99) of reparations go one by one", """
                herd(0, 3, 0, 0, 0) = 1
                herd(1, 0, 0, 0, 0) = 2
                share(0, {-1,100,MIN,MAX}) = OUTSIDE
                share(0, {0,1,98,99}) = 0 1 98 99
                share(1, {0,1,98,99}) = 0
                """);
        edges.run(16, "each to the HERD whose HEADS, divided by how many it has got and 1, are most", """
                # 8, 5, then 8 by 2; 8 by 3 is more than 5 by 2, though cut both were 2.
                herd(0, 5, 0, 0, 0) = 1
                herd(1, 8, 1, 9, 6) = 2
                share(0, {0..5}) = 0 0 1 1 1 2
                share(1, {0..5}) = 0 1 1 2 3 3
                """);
        edges.run(16, "NONE: there are no HEADS", """
                herd(5, 0, 1, 9, 6) = 1
                share(5, {0,1,99}) = NONE
                herd(4, 0, 1, 9, 6) = 2
                share(5, {0,1,99}) = NONE
                herd(4, 1, 1, 9, 6) = 2
                share(5, {0,1,99}) = 0
                share(4, {0,1,99}) = 0 1 99
                # Who joined another one has no HEADS, and is not there.
                write F&E
                done() = 1
                share(5, {0,99}) = 0 99
                share(4, 0) = UNKNOWN
                """);
    }

    private void shareOfSeveral() {
        String first = "are most (the first of several)";
        edges.run(16, first, """
                herd({0..5}, 99, 0, 0, 0) = 1..6
                share({0..5}, 1) = 1 0 0 0 0 0
                share({0..5}, 5) = 1 1 1 1 1 0
                share({0..5}, 6) = 1
                share({0..5}, 7) = 2 1 1 1 1 1
                share({0..5}, 99) = 17 17 17 16 16 16
                """);
        edges.run(16, first, """
                # 3 is as much as 6 by 2: then the first HERD gets it, be it the one that has got more.
                herd(0, 3, 0, 0, 0) = 1
                herd(1, 6, 0, 0, 0) = 2
                share({0,1}, 1) = 0 1
                share({0,1}, 2) = 1 1
                share({0,1}, 3) = 1 2
                herd(0, 6, 0, 0, 0) = 2
                herd(1, 3, 0, 0, 0) = 2
                share({0,1}, 1) = 1 0
                share({0,1}, 2) = 2 0
                share({0,1}, 3) = 2 1
                """);
        edges.run(16, "how many a HERD gets", """
                herd(0, 1, 0, 0, 0) = 1
                herd(5, 99, 0, 0, 0) = 2
                share({0,5}, 98) = 0 98
                share({0,5}, 99) = 1 98
                herd(0, 99, 0, 0, 0) = 2
                herd(5, 1, 0, 0, 0) = 2
                share({0,5}, 99) = 99 0
                """);
    }

    private void shareRefused() {
        edges.run(16, "SHARES; NONE. UNKNOWN: it is not there; OUTSIDE.", """
                share({-1,0,5,6,MIN,MAX}, {0,-1,100}) = UNKNOWN
                herd(0, 0, 0, 0, 0) = 1
                # OUTSIDE comes ahead of NONE.
                share(0, {-1,100,MIN,MAX}) = OUTSIDE
                share(0, {0,99}) = NONE
                share({-1,1,6}, {0,100}) = UNKNOWN
                herd(0, 1, 0, 0, 0) = 1
                share(0, {-1,100}) = OUTSIDE
                share(0, {0,99}) = 0 99
                """);
    }

    private void waiting() {
        edges.run(17, "WAIT: n (1 to 12) months to come", """
                waiting(1, 1, {0,1}) = 1 2
                waiting(2, 1, {0,1}) = 3 4
                waiting(11, 1, {0,1}) = 2047 2048
                waiting(12, 1, {0,1}) = 4095 4096
                waiting({0,13,-1,MIN,MAX}, 1, {0,1}) = LOST-OUTSIDE
                """);
        edges.run(17, "in each of which a HERD's MOOD is 0 to m (1 to 9), each as likely", """
                waiting(1, {1..9}, 0) = 1 1 3 2 5 3 7 4 9
                waiting(1, {1..9}, 1) = 2 1 2 1 2 1 2 1 2
                waiting(1, {0,10,-1,MIN,MAX}, {0,1}) = LOST-OUTSIDE
                waiting(12, 9, {0,1}) = 645367383 78125000
                """);
        edges.run(17, "in one of these one reads, in the last one at the latest, and sees the MOOD ahead of it: "
                + "the MOOD in the mean, if one waits as well as can be", """
                # Of 2 months: what is below the mean of 1 month waits.
                waiting(2, 2, {0,1}) = 4 3
                waiting(3, 2, {0,1}) = 14 9
                waiting(2, 9, {0,1}) = 23 4
                waiting(3, 9, {0,1}) = 129 20
                waiting(4, 9, {0,1}) = 1383 200
                """);
    }

    private void waitingRefused() {
        edges.run(17, "WAIT: the mean, a fraction. OUTSIDE.", """
                waiting(1, 1, {-1,2,MIN,MAX}) = LOST-OUTSIDE
                waiting({0,13}, {0,10}, {-1,2}) = LOST-OUTSIDE
                """);
        edges.run(17, "Fractions are told in lowest terms by part: 0 the upper, 1 the lower number; "
                + "refused with LOST and the refusal.", """
                waiting(1, 9, {0,1}) = 9 2
                waiting(1, 8, {0,1}) = 4 1
                waiting(1, 8, {-1,2}) = -1000000000000000002
                """);
    }

    private void reads() {
        edges.run(18, "WAIT: the least MOOD.", """
                # In the last month one reads, whatever MOOD is.
                reads(1, {1..9}) = 0
                reads({1..12}, 1) = 0 1 1 1 1 1 1 1 1 1 1 1
                reads({1..12}, 9) = 0 5 6 7 7 8 8 8 8 8 9 9
                """);
        edges.run(18, "the least MOOD by which one reads in the first month (one reads, if that is as good as waiting)", """
                # Waiting is worth m by 2: of an even m half of it is as good.
                reads(2, {1..9}) = 1 1 2 2 3 3 4 4 5
                """);
    }

    private void readsRefused() {
        edges.run(18, "OUTSIDE.", """
                reads({0,13,-1,MIN,MAX}, {1,9}) = OUTSIDE
                reads({1,12}, {0,10,-1,MIN,MAX}) = OUTSIDE
                reads({0,13}, {0,10}) = OUTSIDE
                """);
    }
}
