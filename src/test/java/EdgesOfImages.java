/** Boundary cases of promises 26 to 28. */
final class EdgesOfImages {
    private static final String FILLED = """
            herd(0, 10, 0, 5, 6) = 1
            herd(5, 20, 0, 8, 11) = 2
            clause(3, 7) = 3
            clash(1, 2, true) = 1
            rock(4, 32) = 63
            counted(4, 21) = 1
            write A!.
            done() = 2
            """;
    /** All but the PAD as FILLED leaves it. */
    private static final String AS_FILLED = """
            told({1..4}) = 33 1 5 1
            told(1{0..9}) = 3 3 3 7 3 3 3 3 3 3
            told(2{0..9}) = 0 4 2 0 0 0 0 0 0 0
            told(3{0..5}) = 63 63 63 63 32 63
            told(10{0..3}) = 6 0 7 6
            told(15{0..3}) = 21 0 9 11
            went({-1..2}) = 2 32 33 NONE
            """;
    private static final String CHANGED = """
            herd(1, 1, 1, 1, 1) = 3
            herd(0, 99, 1, 0, 0) = 3
            clause(3, 1) = 7
            clause(9, 9) = 3
            clash(1, 2, false) = 0
            clash(8, 9, true) = 1
            rock(4, 1) = 32
            rock(0, 0) = 63
            forget() = 1
            counted(0, 0) = 1
            counted(0, 999) = 2
            write A&B.A!
            done() = 3
            """;
    private static final String AS_CHANGED = """
            told({1..4}) = 33 2 10 2
            told(1{0..9}) = 3 3 3 1 3 3 3 3 3 9
            told(2{0..9}) = 0 0 0 0 0 0 0 0 512 256
            told(3{0..5}) = 0 63 63 63 1 63
            told(10{0..3}) = 94 1 2 0
            told(15{0..3}) = 22 0 9 11
            """;

    private final Edges edges;

    EdgesOfImages(Edges edges) {
        this.edges = edges;
    }

    void all() {
        imagesAreKept();
        imagesOfBoth();
        imageAnew();
        thePadIsNotKept();
        imageRefused();
        restoreRefused();
        told();
        toldOfSets();
        toldOfHerds();
        toldRefused();
    }

    private void imagesAreKept() {
        edges.run(26, "All but the PAD is kept in an IMAGE (0, 1): 1.",
                FILLED + "image(0) = 1\n" + AS_FILLED + CHANGED + AS_CHANGED + "restore(0) = 1\n" + AS_FILLED);
        edges.run(27, "It is as it was when it was kept: 1.",
                FILLED + "image(1) = 1\n" + CHANGED + "restore(1) = 1\n" + AS_FILLED
                // What is changed behind it does not change what is kept.
                + CHANGED + "restore(1) = 1\n" + AS_FILLED);
        edges.run(27, "It is as it was when it was kept: 1.", """
                # An empty strait is kept, too.
                image(0) = 1
                herd({0..5}, 1, 0, 0, 0) = 1..6
                counted({0..5}, 1) = 1..6
                clause({0..9}, 9) = 3
                restore(0) = 1
                told({0..4}) = 0
                told(1{0..9}) = 3
                went({-1..1}) = 1 0 NONE
                herd(3, 1, 0, 0, 0) = 1
                counted(0, 0) = 1
                """);
    }

    private void imagesOfBoth() {
        edges.run(26, "All but the PAD is kept in an IMAGE (0, 1): 1.", """
                herd(0, 1, 0, 0, 0) = 1
                image(0) = 1
                herd(0, 2, 0, 0, 0) = 1
                image(1) = 1
                herd(0, 3, 0, 0, 0) = 1
                restore(0) = 1
                told(100) = 1
                # What is kept in one is not what is kept in the other, and neither goes by it.
                restore(1) = 1
                told(100) = 2
                restore(1) = 1
                restore(0) = 1
                told(100) = 1
                """);
        edges.run(27, "It is as it was when it was kept: 1.", """
                # COUNTS that were FULL are so again, and those that were not have room again.
                image(0) = 1
                counted({0,1,2,3,4,5,0,1}, 7) = 1..8
                image(1) = 1
                restore(0) = 1
                counted(0, 7) = 1
                restore(1) = 1
                told(4) = 8
                counted(0, 7) = FULL
                """);
    }

    private void imageAnew() {
        edges.run(26, "All but the PAD is kept in an IMAGE (0, 1): 1.", """
                image(1) = 1
                herd(0, 7, 0, 0, 0) = 1
                image(1) = 1
                image(1) = 1
                herd(0, 9, 0, 0, 0) = 1
                restore(1) = 1
                told({1,100}) = 1 7
                restore(0) = STATE
                """);
    }

    private void thePadIsNotKept() {
        edges.run(26, "All but the PAD", """
                write a.A
                image(0) = 1
                told(0) = 3
                fault() = 3
                wipe() = 3
                restore(0) = 1
                told(0) = 0
                write A?
                herd(0, 1, 1, 0, 0) = 1
                restore(0) = 1
                # The text of now is judged by what is as it was.
                told(0) = 2
                judge({0,1}) = 0 1
                say(46) = 3
                """);
    }

    private void imageRefused() {
        edges.run(26, "OUTSIDE.", """
                herd(0, 7, 0, 0, 0) = 1
                image({-1,2,MIN,MAX}) = OUTSIDE
                restore({0,1}) = STATE
                image(0) = 1
                herd(0, 8, 0, 0, 0) = 1
                image({-1,2}) = OUTSIDE
                restore(0) = 1
                told(100) = 7
                """);
    }

    private void restoreRefused() {
        edges.run(27, "OUTSIDE; STATE: it was not.", """
                herd(0, 7, 0, 0, 0) = 1
                restore({-1,2,MIN,MAX}) = OUTSIDE
                restore({0,1}) = STATE
                told({1,100}) = 1 7
                image(1) = 1
                herd(0, 8, 0, 0, 0) = 1
                restore({-1,2,MIN,MAX}) = OUTSIDE
                restore(0) = STATE
                told(100) = 8
                restore(1) = 1
                # Which IMAGES are kept is not a part of an IMAGE.
                image(0) = 1
                restore({1,0}) = 1
                """);
    }

    private void told() {
        edges.run(28, "0 signs, 1 HERDS (bits), 2 the month, 3 LOST HEADS, 4 COUNTS;", """
                told({0..4}) = 0
                herd({0..5}, 99, 0, 0, 0) = 1..6
                counted({0,1,2,3,4,5,0,1}, 7) = 1..8
                write A!..
                told({0..4}) = 4 63 0 0 8
                done() = 3
                write %s
                told({0..4}) = 60 63 2 5 8
                """.formatted("x".repeat(60)));
    }

    private void toldOfSets() {
        edges.run(28, "10 and a CLAUSE: WORDS; 20 and a CLAUSE: those it CLASHES with (bits); 30 and a ROCK: HERDS;", """
                clause(0, 1) = 3
                clause(9, 9) = 3
                clash(0, 9, true) = 1
                clash(0, 1, true) = 2
                rock(0, 0) = 63
                rock(5, 32) = 63
                told({9..20}) = OUTSIDE 1 3 3 3 3 3 3 3 3 9 514
                told({20..31}) = 514 1 0 0 0 0 0 0 0 1 0 63
                told({29..36}) = 1 0 63 63 63 63 32 OUTSIDE
                """);
    }

    private void toldOfHerds() {
        edges.run(28, "100 and 10 times a HERD that is there and 0 HEADS, 1 SIDE, 2 MOOD, 3 when it MOULTS.", """
                herd(0, 99, 1, 9, 11) = 1
                herd(5, 12, 0, 7, 8) = 2
                told({99..104}) = OUTSIDE 99 1 9 11 OUTSIDE
                told({109..114}) = OUTSIDE
                told({149..154}) = OUTSIDE 12 0 7 8 OUTSIDE
                # One that joined another is not there.
                herd(1, 1, 0, 0, 0) = 3
                told({110..113}) = 1 0 0 0
                write F&B
                done() = 1
                told({110..113}) = OUTSIDE
                told(150) = 13
                """);
    }

    private void toldRefused() {
        edges.run(28, "OUTSIDE.", """
                herd({0..5}, 1, 0, 0, 0) = 1..6
                told({MIN,-1000,-100,-90,-10,-2,-1}) = OUTSIDE
                told({5..9}) = OUTSIDE
                told({36..99}) = OUTSIDE
                told(1{0..5}{4..9}) = OUTSIDE
                told({160..170}) = OUTSIDE
                told({200,1000,1100,MAX}) = OUTSIDE
                """);
    }
}
