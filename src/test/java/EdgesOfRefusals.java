import java.util.List;

/** Boundary cases of all promises: what is refused, by what, and that an object bears any numbers. */
final class EdgesOfRefusals {
    /** An object is made anew behind so many calls, as nothing is promised of it behind 512. */
    private static final int CALLS_OF_ONE = 400;
    private static final String EMPTY = "";
    private static final String SOME = """
            herd(0, 10, 0, 5, 6)
            herd(1, 20, 1, 2, 0)
            herd(2, 7, 0, 9, 3)
            clause(1, 5)
            clash(0, 1, true)
            clash(2, 1, true)
            rock(2, 3)
            counted(2, 10)
            image(0)
            write aA?.A&B
            """;
    private static final String FULL_OF_ALL = """
            herd({0..5}, 98, 1, 8, 11)
            clause({0..9}, 1)
            counted({0,1,2,3,4,5,0,1}, 196)
            image({0,1})
            write %s
            """.formatted(".".repeat(58) + "A&");
    private static final String NONE_FITS = """
            herd(5, 0, 1, 9, 0)
            counted(5, 1)
            write D?
            """;

    private final Edges edges;

    EdgesOfRefusals(Edges edges) {
        this.edges = edges;
    }

    void all() {
        constants();
        theFirstThatFits();
        changesNothing();
        setsAreBits();
        lastCall();
        for (String scene : new String[] {EMPTY, SOME, FULL_OF_ALL, NONE_FITS}) {
            numbersOfHerds(scene);
            numbersOfSeasons(scene);
            numbersOfBringing(scene);
            numbersOfCounts(scene);
            numbersOfImages(scene);
        }
    }

    private void constants() {
        edges.of(1, "UNKNOWN -1 (there is no such HERD, CLAUSE, ROCK), OUTSIDE -2 (another number is not as told), "
                + "NO -5 (as told), STATE -3 (as told), FULL -4.");
        SealStrait x = new SealStrait();
        edges.is("who(10)", x.who(10), -1);
        edges.is("judge(2)", x.judge(2), -2);
        edges.is("say(65)", x.say(65), 1);
        edges.is("done()", x.done(), -5);
        edges.is("restore(0)", x.restore(0), -3);
        edges.is("went(-2)", x.went(-2), -6);
        for (int i = 1; i <= 8; i++) {
            edges.is("counted(0, 0)", x.counted(0, 0), i);
        }
        edges.is("counted(0, 0)", x.counted(0, 0), -4);
    }

    private void theFirstThatFits() {
        String first = "Calls that are refused answer, the first of these that fits";
        edges.run(2, first, "herd(6, 100, 2, 10, 12) = UNKNOWN\nherd(5, 100, 2, 10, 12) = OUTSIDE\n");
        edges.run(3, first, "clause(10, 10) = UNKNOWN\nclause(9, 10) = OUTSIDE\n");
        edges.run(5, first, "rock(6, 64) = UNKNOWN\nrock(5, 64) = OUTSIDE\n");
        edges.run(6, first, "write " + "x".repeat(60) + "\nsay(127) = OUTSIDE\nsay(126) = FULL\n");
        edges.run(9, first, "write A\njudge(2) = OUTSIDE\njudge(1) = NO\n");
        edges.run(11, first, "herd(0, 1, 0, 0, 0) = 1\nwrite A\n"
                + "behind(1, 3) = UNKNOWN\nbehind(0, 3) = OUTSIDE\nbehind(0, 2) = NO\n");
        edges.run(12, first, "write A\nthen(5) = OUTSIDE\nthen(4) = NO\n");
        edges.run(14, first, "herd({0..1}, 1, 0, 0, 0) = 1 2\n"
                + "bring(0, 2, 2, 2, 2) = UNKNOWN\nbring(0, 0, 0, 2, 2) = UNKNOWN\nbring(0, 2, 1, 2, 2) = OUTSIDE\n");
        edges.run(16, first, "herd(0, 0, 0, 0, 0) = 1\nshare(1, 100) = UNKNOWN\nshare(0, 100) = OUTSIDE\nshare(0, 99) = NONE\n");
        edges.run(19, first, "counted({0,0,0,0,0,0,0,0}, 0) = 1..8\n"
                + "counted(6, 1000) = UNKNOWN\ncounted(5, 1000) = OUTSIDE\ncounted(5, 999) = FULL\n");
        edges.run(22, first, "counted(0, 1) = 1\nask(2) = OUTSIDE\nask(1) = NONE\n");
        edges.run(27, first, "restore(2) = OUTSIDE\nrestore(1) = STATE\n");
    }

    /** Each call that can change something, refused by each way it can be. */
    private void changesNothing() {
        edges.run(1, "They change nothing.", SOME + """
                herd(6, 1, 1, 1, 1) = UNKNOWN
                herd(3, 1, 1, 1, 12) = OUTSIDE
                herd(0, 1, 1, 1, 12) = OUTSIDE
                clause(10, 1) = UNKNOWN
                clause(0, 10) = OUTSIDE
                clash(0, 10, {true,false}) = UNKNOWN
                clash(1, 1, {true,false}) = UNKNOWN
                rock(6, 0) = UNKNOWN
                rock(2, 64) = OUTSIDE
                say({32,127}) = OUTSIDE
                write aA?.A&D
                done() = NO
                counted(6, 0) = UNKNOWN
                counted(0, 1000) = OUTSIDE
                image({-1,2}) = OUTSIDE
                restore({-1,2}) = OUTSIDE
                restore(1) = STATE
                told({0..4}) = 7 7 0 0 1
                """);
        edges.run(1, "They change nothing.", FULL_OF_ALL + """
                say(65) = FULL
                done() = NO
                counted(0, 1) = FULL
                told({0..4}) = 60 63 0 0 8
                fault() = 60
                """);
    }

    private void setsAreBits() {
        edges.run(13, "Sets are bits.", """
                herd({0..5}, 1, 0, 9, 0) = 1..6
                herd(5, 1, 0, 9, 1) = 6
                who(0) = 32
                herd(0, 1, 0, 9, 1) = 6
                who(0) = 33
                told(1) = 63
                """);
        edges.run(28, "Sets are bits.", """
                herd(5, 1, 0, 0, 0) = 1
                told(1) = 32
                herd(0, 1, 0, 0, 0) = 2
                told(1) = 33
                """);
    }

    private void lastCall() {
        edges.of(6, "A sign more: how many.");
        SealStrait x = new SealStrait();
        for (int call = 1; call <= 512; call += 2) {
            edges.is("say(46) as call " + call, x.say(46), 1);
            edges.is("wipe() as call " + (call + 1), x.wipe(), 1);
        }
        edges.of(26, "All but the PAD is kept in an IMAGE (0, 1): 1.");
        SealStrait kept = new SealStrait();
        for (int call = 1; call <= 512; call += 2) {
            edges.is("image as call " + call, kept.image(call / 2 % 2), 1);
            edges.is("restore as call " + (call + 1), kept.restore(call / 2 % 2), 1);
        }
    }

    /** Calls at all edges of all their numbers at once, each answer against the model's, on what a scene has made. */
    private void atAllEdges(int promise, String scene, String text) {
        edges.of(promise, "Calls that are refused answer, the first of these that fits");
        List<Calls.Call> before = Calls.of(scene);
        SealStrait x = null;
        Model model = null;
        int made = 0;
        for (Calls.Call call : Calls.of(text)) {
            if (x == null || made >= CALLS_OF_ONE) {
                x = new SealStrait();
                model = new Model();
                made = before.size();
                for (Calls.Call first : before) {
                    edges.is(first.text(), first.on(x), first.on(model));
                }
            }
            edges.is(call.text(), call.on(x), call.on(model));
            made++;
        }
    }

    private void numbersOfHerds(String scene) {
        atAllEdges(2, scene, "herd({MIN,-1,0,5,6,MAX}, {-1,0,99,100}, {-1,0,1,2}, {-1,0,9,10}, {-1,0,11,12})");
        atAllEdges(2, scene, "herd(0, {MIN,MAX,0}, {MIN,MAX,0}, {MIN,MAX,0}, {MIN,MAX,0})");
        atAllEdges(3, scene, "clause({MIN,-1,0,9,10,MAX}, {MIN,0,1,9,10,MAX})");
        atAllEdges(4, scene, "clash({MIN,-1,0,1,8,9,10,32,MAX}, {MIN,-1,0,1,8,9,10,32,MAX}, {true,false})");
        atAllEdges(5, scene, "rock({MIN,-1,0,5,6,MAX}, {MIN,-1,0,1,63,64,MAX})");
        atAllEdges(6, scene, "say({MIN,-1,0,32,33,65,126,127,256,MAX})\nfault()\njudge(0)\n");
        atAllEdges(7, scene, "wipe()\nwipe()\nfault()");
        atAllEdges(8, scene, "fault()\nsay(46)\nfault()\nsay(65)\nfault()\nsay(38)\nfault()\nsay(70)\nfault()\nsay(71)\nfault()");
    }

    private void numbersOfSeasons(String scene) {
        atAllEdges(9, scene, "judge({MIN,-1,0,1,2,MAX})");
        atAllEdges(10, scene, "done()\ntold({0..4})\ndone()\ntold({0..4})");
        atAllEdges(11, scene, "behind({MIN,-1,0,1,2,3,4,5,6,MAX}, {MIN,-1,0,1,2,3,MAX})");
        atAllEdges(12, scene, "then({MIN,-1,0,1,2,3,4,5,MAX})");
        atAllEdges(13, scene, "who({MIN,-1,0,1,8,9,10,MAX})");
    }

    private void numbersOfBringing(String scene) {
        atAllEdges(14, scene, "bring({MIN,-1,0,1,2,5,6,MAX}, {-1,0,1,2}, {MIN,-1,0,1,2,5,6,MAX}, {-1,0,1,2}, {-1,0,1,2})");
        atAllEdges(14, scene, "bring(0, {MIN,MAX,0}, 1, {MIN,MAX,0}, {MIN,MAX,0})");
        atAllEdges(15, scene, "drop({MIN,-1,0,1,3,7,512,1022,1023,1024,MAX}, {MIN,-1,0,1,2,MAX})");
        atAllEdges(16, scene, "share({MIN,-1,0,1,2,3,4,5,6,MAX}, {MIN,-1,0,1,98,99,100,MAX})");
        atAllEdges(17, scene, "waiting({MIN,-1,0,1,2,11,12,13,MAX}, {MIN,-1,0,1,2,8,9,10,MAX}, {MIN,-1,0,1,2,MAX})");
        atAllEdges(18, scene, "reads({MIN,-1,0,1,2,11,12,13,MAX}, {MIN,-1,0,1,2,8,9,10,MAX})");
    }

    private void numbersOfCounts(String scene) {
        atAllEdges(19, scene, "counted({MIN,-1,0,5,6,MAX}, {MIN,-1,0,1,999,1000,MAX})");
        atAllEdges(20, scene, "forget()\nforget()\ncounted(0, 0)\nforget()");
        atAllEdges(21, scene, "went({MIN,-6,-2,-1,0,1,2,7,8,63,64,65,MAX})");
        atAllEdges(22, scene, "ask({MIN,-1,0,1,2,MAX})");
        atAllEdges(23, scene, "turning({MIN,-1,0,1,3,10,29,30,31,MAX}, {MIN,-1,0,1,2,MAX})");
        atAllEdges(24, scene, "drift({-1,0,1,2}, {-1,0,10,11}, {-1,0,10,11}, {-1,0,1,16,17,18}, {-1,0,1,2}, {-1,0,1,2})");
        atAllEdges(24, scene, "drift({MIN,MAX,0}, {MIN,MAX,3}, {MIN,MAX,7}, {MIN,MAX,9}, {MIN,MAX,1}, {MIN,MAX,0})");
        atAllEdges(25, scene, "year({MIN,-1,0,1,9998,9999,10000,MAX}, {MIN,-1,0,1,98,99,100,MAX}, {MIN,-1,0,1,2,3,MAX})");
    }

    private void numbersOfImages(String scene) {
        atAllEdges(26, scene, "image({MIN,-1,2,MAX})\nimage({0,1})\ntold({0..4})");
        atAllEdges(27, scene, "restore({MIN,-1,0,1,2,MAX})\ntold({0..35})\ntold({100..153})");
        atAllEdges(28, scene, "told({MIN,MAX})\ntold({-5..205})");
    }
}
