/** Boundary cases of promises 19 to 25. */
final class EdgesOfCounts {
    private static final String ODD_HERDS = """
            herd(1, 4, 0, 0, 0) = 1
            herd(3, 6, 1, 0, 0) = 2
            herd(5, 10, 1, 0, 0) = 3
            """;

    private final Edges edges;

    EdgesOfCounts(Edges edges) {
        this.edges = edges;
    }

    void all() {
        counted();
        countedRefused();
        forget();
        went();
        wentByCounts();
        wentByWhatIsNow();
        ask();
        askTheLeast();
        askRefused();
        turning();
        turningOnce();
        turningRefused();
        drift();
        driftMean();
        driftRefused();
        yearKinds();
        yearOnlyIfItCanBe();
        yearFromAllAsItIs();
        yearRefused();
    }

    private void counted() {
        edges.run(19, "COUNTS, 8 at most", """
                counted({0..5}, 0) = 1..6
                counted(0, 999) = 7
                told(4) = 7
                counted(5, 1) = 8
                counted({0,5}, {0,999}) = FULL
                told(4) = 8
                forget() = 8
                counted(5, 999) = 1
                """);
        edges.run(19, "off a ROCK so many HEADS were wanting (0 to 999)", """
                counted(0, {-1,1000,MIN,MAX}) = OUTSIDE
                told(4) = 0
                went(-1) = 1
                counted(0, 0) = 1
                went(-1) = 1
                counted(0, 999) = 2
                went(-1) = 0
                """);
        edges.run(19, "A COUNT more: how many.", """
                # The same once more, and such as no set fits, are COUNTS more.
                herd(0, 5, 0, 0, 0) = 1
                counted(2, 5) = 1
                counted(2, 5) = 2
                counted(2, 0) = 3
                went(-1) = 0
                told(4) = 3
                """);
    }

    private void countedRefused() {
        edges.run(19, "UNKNOWN: the ROCK; OUTSIDE; FULL.", """
                counted({-1,6,MIN,MAX}, {0,-1,1000}) = UNKNOWN
                counted({0,5}, {-1,1000,MIN,MAX}) = OUTSIDE
                counted({0,1,2,3,4,5,0,1}, 7) = 1..8
                counted({-1,6,MIN,MAX}, {0,-1,1000}) = UNKNOWN
                counted({0,5}, {-1,1000,MIN,MAX}) = OUTSIDE
                counted({0,5}, {0,999}) = FULL
                told(4) = 8
                """);
    }

    private void forget() {
        edges.run(20, "COUNTS go: how many there were.", """
                forget() = 0
                herd(0, 5, 0, 0, 0) = 1
                rock(1, 1) = 63
                counted(1, 999) = 1
                went(-1) = 0
                forget() = 1
                forget() = 0
                told({4,31,1}) = 0 1 1
                went(-1) = 2
                counted({0,0,0,0,0,0,0,0}, 3) = 1..8
                forget() = 8
                told(4) = 0
                went({-1..1}) = 2 0 1
                # What was forgotten does not come back with a COUNT more.
                counted(0, 5) = 1
                went({-1,0}) = 1 1
                """);
    }

    private void went() {
        edges.run(21, "WENT: how many (i = -1), the i-th; NONE (i below -1, too).", ODD_HERDS + """
                went(-1) = 8
                went({0..7}) = 0 2 8 10 32 34 40 42
                went({8,63,64,MAX}) = NONE
                went({-2,-6,MIN}) = NONE
                counted(0, 10) = 1
                went({-2..2}) = NONE 2 10 32 NONE
                counted(0, 11) = 2
                went({-2..0}) = NONE 0 NONE
                """);
        edges.run(21, "WENT: sets of HERDS by which all COUNTS are so: how many; the i-th (rising, as bits).", """
                went({-1..1}) = 1 0 NONE
                herd({0..5}, 99, 0, 0, 0) = 1..6
                went(-1) = 64
                went({0..64}) = 0..63 NONE
                counted(3, 594) = 1
                went({-1..1}) = 1 63 NONE
                forget() = 1
                counted(3, 595) = 1
                went({-1..0}) = 0 NONE
                forget() = 1
                counted(3, 495) = 1
                went({-1..6}) = 6 31 47 55 59 61 62 NONE
                """);
    }

    private void wentByCounts() {
        edges.run(21, "Some HERDS went under (the same all times; of those that are there).", ODD_HERDS + """
                # Off ROCK 1 only F is seen; by each COUNT alone two sets or more fit, by both one.
                rock(1, 32) = 63
                counted(0, 10) = 1
                went({-1..1}) = 2 10 32
                counted(1, 0) = 2
                went({-1..1}) = 1 10 NONE
                counted(1, 10) = 3
                went({-1..0}) = 0 NONE
                forget() = 3
                # One without HEADS can have gone under or not.
                herd(0, 0, 0, 0, 0) = 4
                counted(0, 4) = 1
                went({-1..2}) = 2 2 3 NONE
                """);
        edges.run(21, "HEADS (of now) of HERDS that are seen off it and went under", ODD_HERDS + """
                rock(2, 0) = 63
                counted(2, 0) = 1
                went(-1) = 8
                counted(2, 1) = 2
                went(-1) = 0
                forget() = 2
                # A and E are seen, too, but are not there.
                rock(2, 19) = 0
                counted(2, 4) = 1
                went({-1..4}) = 4 2 10 34 42 NONE
                """);
    }

    private void wentByWhatIsNow() {
        edges.run(21, "HEADS (of now)", """
                herd(0, 5, 0, 0, 0) = 1
                herd(1, 6, 0, 0, 0) = 2
                counted(0, 6) = 1
                went({-1..1}) = 1 2 NONE
                herd(0, 6, 0, 0, 0) = 2
                went({-1..1}) = 2 1 2
                write A!
                went(-1) = 2
                done() = 1
                went({-1..0}) = 1 2
                write A&B
                done() = 1
                # A has 7 HEADS now, and B is no more.
                went({-1..0}) = 0 NONE
                counted(0, 7) = 2
                went(-1) = 0
                forget() = 2
                counted(0, 7) = 1
                went({-1..0}) = 1 1
                """);
        edges.run(21, "HERDS that are seen off it", ODD_HERDS + """
                # Which HERDS are seen is told of the ROCK, so a COUNT that stands goes by what is seen off it now.
                counted(2, 10) = 1
                went({-1..2}) = 2 10 32 NONE
                rock(2, 10) = 63
                went({-1..2}) = 2 10 42 NONE
                rock(2, 2) = 10
                went({-1..0}) = 0 NONE
                # Another ROCK's HERDS do not matter to it.
                rock(3, 32) = 63
                went(-1) = 0
                rock(2, 32) = 2
                went({-1..4}) = 4 32 34 40 42 NONE
                """);
    }

    private void ask() {
        edges.run(22, "ASK: the ROCK (what = 0), how many (1)", """
                ask({0,1}) = 0 1
                # Each set has another sum: whatever is wanting, one is left.
                herd({0..4}, 1, 0, 0, 0) = 1..5
                herd(1, 2, 0, 0, 0) = 5
                herd(2, 4, 0, 0, 0) = 5
                herd(3, 8, 0, 0, 0) = 5
                herd(4, 16, 0, 0, 0) = 5
                herd(5, 32, 0, 0, 0) = 6
                ask({0,1}) = 0 1
                rock(0, 0) = 63
                ask({0,1}) = 1 1
                rock({1..5}, 31) = 63
                ask({0,1}) = 1 2
                rock(5, 63) = 31
                ask({0,1}) = 5 1
                rock({0..5}, 0)
                ask({0,1}) = 0 64
                """);
        edges.run(22, "so that, whatever is wanting, fewest of these are left at the most", """
                # Off ROCK 0: 4 or 4 are left; off ROCK 1: 2, 4 or 2. At the most it is as many.
                herd(0, 1, 0, 0, 0) = 1
                herd(1, 1, 0, 0, 0) = 2
                herd(2, 9, 0, 0, 0) = 3
                rock({0..5}, 4) = 63
                rock(1, 3) = 4
                ask({0,1}) = 0 4
                rock(1, 7) = 3
                ask({0,1}) = 1 2
                # Off it 1 was wanting: A or B, which only a ROCK off which one of them is seen tells.
                counted(1, 1) = 1
                ask({0,1}) = 0 2
                rock(4, 2) = 4
                ask({0,1}) = 4 1
                """);
    }

    private void askTheLeast() {
        edges.run(22, "ASK: the ROCK to count from next, so that, whatever is wanting, fewest of these are left at the most: "
                + "the least; how many.", """
                herd({0..5}, 99, 0, 0, 0) = 1..6
                # 0 to 6 times 99 can be wanting, 3 times 99 most often: by 20 sets.
                ask({0,1}) = 0 20
                # Without F it is 10 sets, each with F or not: as many, so the least ROCK stays.
                rock(0, 31) = 63
                ask({0,1}) = 0 20
                rock(0, 15) = 31
                ask({0,1}) = 1 20
                rock({0..5}, 31)
                ask({0,1}) = 0 20
                # COUNTS that are FULL do not matter to it.
                counted({1,1,1,1,1,1,1,1}, 0) = 1..8
                ask({0,1}) = 0 2
                rock(5, 32) = 31
                ask({0,1}) = 5 1
                # All went under: one set fits, and the least ROCK is as good as any.
                forget() = 8
                rock({0..5}, 63)
                counted(5, 594) = 1
                ask({0,1}) = 0 1
                """);
    }

    private void askRefused() {
        edges.run(22, "NONE: none fits. OUTSIDE.", """
                ask({-1,2,MIN,MAX}) = OUTSIDE
                counted(0, 1) = 1
                went(-1) = 0
                ask({0,1}) = NONE
                ask({-1,2,MIN,MAX}) = OUTSIDE
                forget() = 1
                ask({0,1}) = 0 1
                """);
    }

    private void turning() {
        edges.run(23, "TURNS: whether (what = 0), which first (1; NONE).", """
                # All CLAUSES have 3 WORDS: who begins wins if an odd number of them fits.
                turning({0..15}, 0) = 0 0 0 1 1 1 0 0 0 1 1 1 0 0 0 1
                turning({16..30}, 0) = 1 1 0 0 0 1 1 1 0 0 0 1 1 1 0
                turning({0,2,6,30}, 1) = NONE
                turning({3,5,9,29}, 1) = 0
                """);
        edges.run(23, "none of more WORDS than MOOD is left (which is less by these then)", """
                clause({0..8}, 9) = 3
                clause(9, 1) = 3
                turning(0, {0,1}) = 0 NONE
                turning(1, {0,1}) = 1 9
                turning(8, {0,1}) = 1 9
                turning(9, {0,1}) = 1 0
                turning(10, {0,1}) = 0 NONE
                """);
        edges.run(23, "who can not has lost: whether who begins can win (1, 0); "
                + "which CLAUSE he reads first for it, the least (NONE)", """
                clause(5, 2) = 3
                turning(2, {0,1}) = 1 5
                turning(3, {0,1}) = 1 0
                turning(4, {0,1}) = 1 0
                turning(5, {0,1}) = 0 NONE
                clause(0, 9) = 3
                turning(3, {0,1}) = 1 1
                turning(9, {0,1}) = 1 0
                """);
    }

    private void turningOnce() {
        edges.run(23, "each CLAUSE once at the most", """
                # Ten of one WORD: behind all of them nobody can, however much MOOD is left.
                clause({0..9}, 1) = 3
                turning({8..12}, 0) = 0 1 0 0 0
                turning({29,30}, {0,1}) = 0 NONE 0 NONE
                turning({1,9}, 1) = 0
                # j of 9 can be read only once, and ahead of it is read what makes it even.
                clause(9, 9) = 1
                turning(9, {0,1}) = 1 0
                turning({18,30}, {0,1}) = 0 NONE 0 NONE
                """);
        edges.run(23, "TURNS: two by turns read a CLAUSE to a HERD in a MOOD of m (0 to 30)", """
                clause({0..9}, 9) = 3
                turning({0,8,9,17,18,26,27,30}, 0) = 0 0 1 1 0 0 1 1
                turning({0,30}, 1) = NONE 0
                turning({-1,31,MIN,MAX}, {0,1}) = OUTSIDE
                # It is nobody's MOOD in fact: no HERD need be there.
                told(1) = 0
                """);
    }

    private void turningRefused() {
        edges.run(23, "OUTSIDE.", """
                turning({-1,31,MIN,MAX}, {0,1,-1,2}) = OUTSIDE
                turning({0,30}, {-1,2,MIN,MAX}) = OUTSIDE
                """);
    }

    private void drift() {
        edges.run(24, "DRIFT: a HERD on a SIDE goes to the other one each month with a tenths (0 to 10) from SIDE 0, "
                + "with b tenths from SIDE 1", """
                drift(0, {0,1,5,10}, 7, 1, 0, 0) = 0 1 1 1
                drift(0, {0,1,5,10}, 7, 1, 0, 1) = 1 10 2 1
                drift(1, 7, {0,1,5,10}, 1, 0, 0) = 1 9 1 0
                drift(1, 7, {0,1,5,10}, 1, 0, 1) = 1 10 2 1
                drift(0, 3, 4, 2, 0, {0,1}) = 39 100
                drift(1, 3, 4, 2, 0, {0,1}) = 12 25
                drift({0,1}, {-1,11,MIN,MAX}, 0, 1, 0, 0) = LOST-OUTSIDE
                drift({0,1}, 0, {-1,11,MIN,MAX}, 1, 0, 0) = LOST-OUTSIDE
                """);
        edges.run(24, "that it is on SIDE 1 behind n months (0 to 17)", """
                drift({0,1}, 3, 3, 0, 0, 0) = 0 1
                drift({0,1}, 3, 3, 0, 0, 1) = 1
                drift(0, 10, 10, {0..17}, 0, 0) = 0 1 0 1 0 1 0 1 0 1 0 1 0 1 0 1 0 1
                drift(0, 1, 0, 17, 0, {0,1}) = 83322818300333431 100000000000000000
                drift(1, 0, 1, 17, 0, {0,1}) = 16677181699666569 100000000000000000
                drift(1, 10, 0, 17, 0, {0,1}) = 1
                drift(0, 1, 0, {-1,18,MIN,MAX}, 0, {0,1}) = LOST-OUTSIDE
                """);
    }

    private void driftMean() {
        edges.run(24, "in how many months it is there in the mean, of n from the first one's end on (n 0 to 16 for it)", """
                drift({0,1}, 3, 3, 0, 1, 0) = 0
                drift({0,1}, 3, 3, 0, 1, 1) = 1
                # Where it is ahead of the first month does not count.
                drift(1, 0, 10, {1,16}, 1, {0,1}) = 0 1 0 1
                drift(1, 10, 0, {1,16}, 1, {0,1}) = 1 1 16 1
                drift(0, 10, 10, {15,16}, 1, {0,1}) = 8 1 8 1
                drift(1, 10, 10, {15,16}, 1, {0,1}) = 7 1 8 1
                drift(0, 5, 5, {15,16}, 1, {0,1}) = 15 2 8 1
                drift(0, 3, 4, 2, 1, {0,1}) = 69 100
                drift(1, 0, 1, 16, 1, {0,1}) = 73322818300333431 10000000000000000
                drift(1, 0, 1, {-1,17,18,MIN,MAX}, 1, {0,1}) = LOST-OUTSIDE
                # 17 is refused for the mean alone.
                drift(1, 0, 0, 17, {0,1}, 0) = 1 LOST-OUTSIDE
                """);
    }

    private void driftRefused() {
        edges.run(24, "DRIFT: that it is on SIDE 1 (what = 0), the mean (1). OUTSIDE.", """
                drift({-1,2,MIN,MAX}, 0, 0, 0, {0,1}, {0,1}) = LOST-OUTSIDE
                drift(0, 0, 0, 0, {-1,2,MIN,MAX}, {0,1}) = LOST-OUTSIDE
                drift(0, 0, 0, 0, {0,1}, {-1,2,MIN,MAX}) = LOST-OUTSIDE
                drift(2, 11, 11, 18, 2, 2) = LOST-OUTSIDE
                """);
        edges.run(24, "Fractions are told in lowest terms by part: 0 the upper, 1 the lower number; "
                + "refused with LOST and the refusal.", """
                drift(0, 4, 0, 1, 0, {0,1}) = 2 5
                drift(0, 0, 0, 17, 0, {0,1}) = 0 1
                drift(0, 0, 0, 16, 1, {0,1}) = 0 1
                drift(0, 0, 0, 0, 0, 2) = -1000000000000000002
                """);
    }

    /** By seeds 0 to 7 x is 74, 149, 224, 299, 374, 449, 524, 599, each of another kind. */
    private void yearKinds() {
        edges.run(25, "x becomes (75 x and 74) left over by 65537; by x left over by 8, y being x by 8 (cut): "
                + "0, 1, 2, 3 CLAUSE y left over by 10 is read", """
                clause(9, 4) = 3
                clause(8, 3) = 3
                clause(7, 2) = 3
                clause(6, 1) = 3
                herd(0, 10, 0, 9, 6) = 1
                # By seed 0 j (x is 74), by 2 i (224), by 3 h (299), by 5 g (449).
                year({0,2,3,5}, 1, 2) = 5 6 7 8
                year({0,2,3,5}, 1, 0) = 10
                # By 872 x is 65474: e; by 873 it is 12, left over: a whistle for B.
                clause(4, 9) = 3
                herd(1, 1, 0, 0, 0) = 2
                year({872,873}, 1, 2) = 1 12
                """);
        edges.run(25, "4 a whistle for HERD y left over by 6, 5 a net for it", """
                herd(0, 5, 1, 6, 0) = 1
                herd(5, 9, 1, 5, 0) = 2
                # By seed 6 x is 524: F; by 9999 it is 29092: A; by 1 it is 149: A.
                year(6, 1, {0..2}) = 14 0 14
                year(9999, 1, {0..2}) = 14 0 14
                year(1, 1, {0..2}) = 9 5 11
                """);
        edges.run(25, "6 HERD y by 6 (cut) left over by 6 joins HERD y left over by 6, 7 a month", """
                # By seed 4 x is 374: B joins E; by 7 it is 599.
                herd(1, 30, 1, 4, 0) = 1
                herd(4, 40, 1, 3, 6) = 2
                year(4, 1, {0..2}) = 70 0 3
                year(7, 1, {0..2}) = 71 0 11
                herd(1, 60, 1, 4, 0) = 2
                year(4, 1, {0..2}) = 99 0 3
                """);
    }

    private void yearOnlyIfItCanBe() {
        edges.run(25, "each if that can be: HEADS on SIDE 1; LOST HEADS; MOODS of all added.", """
                # Nobody is there.
                year({0..7}, 1, {0..2}) = 0
                year({0,9999}, 99, {0..2}) = 0
                # 4 HEADS are no net; MOOD 9 no whistle; two SIDES no joining; and what nobody would SIGN helps no MOOD.
                herd(0, 4, 1, 2, 6) = 1
                herd(1, 3, 1, 2, 6) = 2
                herd(4, 2, 0, 2, 6) = 3
                herd(5, 1, 1, 9, 0) = 4
                year({0..6}, 1, 0) = 8
                year({0..6}, 1, 1) = 0
                year({0..6}, 1, 2) = 15
                year(7, 1, {0..2}) = 10 0 21
                # 5 HEADS are; MOOD 8 is; one SIDE is; WORDS of as much as MOOD are.
                herd(0, 5, 1, 2, 6) = 4
                year(1, 1, {0..2}) = 4 5 15
                herd(5, 1, 1, 8, 0) = 4
                year(6, 1, {0..2}) = 9 0 15
                herd(4, 2, 1, 2, 6) = 4
                year(4, 1, {0..2}) = 11 0 12
                clause(9, 2) = 3
                year(0, 1, {0..2}) = 1 0 9
                """);
        edges.run(25, "A YEAR by a seed (0 to 9999) of m ACTS (1 to 99)", """
                # By seed 0: j, d, a whistle for F, and E joins F.
                herd(5, 1, 1, 0, 0) = 1
                herd(4, 9, 1, 5, 0) = 2
                year(0, {1..4}, 0) = 10
                year(0, {1..4}, 2) = 5 5 8 3
                year({-1,10000,MIN,MAX}, 1, {0..2}) = OUTSIDE
                year(0, {0,100,-1,MIN,MAX}, {0..2}) = OUTSIDE
                """);
    }

    private void yearFromAllAsItIs() {
        edges.run(25, "from all as it is", """
                herd(0, 20, 1, 0, 2) = 1
                write A!..
                done() = 3
                told({2,3,100}) = 2 5 17
                year(1, 1, {0..2}) = 12 10 4
                # It is month 2, in which A MOULTS: it does not listen, and no HEAD comes.
                herd(0, 17, 1, 9, 2) = 1
                year(0, 1, {0..2}) = 17 5 9
                year(7, 1, {0..2}) = 17 5 9
                herd(0, 17, 1, 9, 3) = 1
                year(0, 1, {0..2}) = 0 5 6
                year(7, 1, {0..2}) = 18 5 9
                """);
        edges.run(25, "Nothing is DONE in fact.", """
                herd(0, 10, 0, 5, 6) = 1
                herd(1, 20, 1, 2, 0) = 2
                herd(2, 7, 0, 9, 3) = 3
                clause(1, 1) = 3
                # The PAD does not matter, and stays.
                write A&x
                year(77, 99, {0..2}) = 12 10 6
                year(77, 99, {0..2}) = 12 10 6
                year(5, 40, {0..2}) = 28 15 18
                told({0..3}) = 3 7 0 0
                told(1{0..2}0) = 10 20 7
                """);
    }

    private void yearRefused() {
        edges.run(25, "A YEAR: HEADS (what = 0), LOST ones (1), MOODS (2). OUTSIDE.", """
                herd(0, 10, 1, 5, 6) = 1
                year({-1,10000,MIN,MAX}, {0,1,99,100}, {-1,0,2,3}) = OUTSIDE
                year({0,9999}, {0,100}, {-1,0,2,3}) = OUTSIDE
                year({0,9999}, {1,99}, {-1,3,MIN,MAX}) = OUTSIDE
                year(1, 1, {0..2}) = 5 5 5
                """);
    }
}
