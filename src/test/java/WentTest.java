/** Promises 19 to 28. */
public final class WentTest {
    private static final Due due = new Due();
    private static final long REFUSED = SealStrait.LOST + SealStrait.OUTSIDE;

    public static void main(String[] args) {
        counts();
        went();
        countsAreOfNow();
        ask();
        turning();
        drift();
        year();
        images();
        told();
        due.end();
    }

    private static void counts() {
        SealStrait x = new SealStrait();
        due.is("forget() of none", x.forget(), 0);
        due.is("counted(-1, 1000)", x.counted(-1, 1000), SealStrait.UNKNOWN);
        due.is("counted(6, 0)", x.counted(6, 0), SealStrait.UNKNOWN);
        due.is("counted(0, -1)", x.counted(0, -1), SealStrait.OUTSIDE);
        due.is("counted(0, 1000)", x.counted(0, 1000), SealStrait.OUTSIDE);
        for (int i = 1; i <= 8; i++) {
            due.is("counted(5, 999) as number " + i, x.counted(5, 999), i);
        }
        due.is("counted(5, 999) as number 9", x.counted(5, 999), SealStrait.FULL);
        due.is("counted(6, 999) when full", x.counted(6, 999), SealStrait.UNKNOWN);
        due.is("counted(5, 1000) when full", x.counted(5, 1000), SealStrait.OUTSIDE);
        due.is("told(4)", x.told(4), 8);
        due.is("went(-1)", x.went(-1), 0);
        due.is("forget()", x.forget(), 8);
        due.is("told(4) behind forget()", x.told(4), 0);
        due.is("went(-1) behind forget()", x.went(-1), 1);
        due.is("counted(0, 0) behind forget()", x.counted(0, 0), 1);
        due.is("went(-1) with a count of 0", x.went(-1), 1);
    }

    private static void wentIs(SealStrait x, int... sets) {
        due.is("went(-1)", x.went(-1), sets.length);
        for (int i = 0; i < sets.length; i++) {
            due.is("went(" + i + ")", x.went(i), sets[i]);
        }
        due.is("went(" + sets.length + ")", x.went(sets.length), SealStrait.NONE);
        due.is("went(-2)", x.went(-2), SealStrait.NONE);
        due.is("went(MIN)", x.went(Integer.MIN_VALUE), SealStrait.NONE);
        due.is("went(MAX)", x.went(Integer.MAX_VALUE), SealStrait.NONE);
    }

    private static void went() {
        SealStrait x = new SealStrait();
        wentIs(x, 0);
        x.herd(1, 4, 0, 0, 0);
        x.herd(3, 6, 1, 0, 0);
        x.herd(5, 10, 1, 0, 0);
        wentIs(x, 0, 2, 8, 10, 32, 34, 40, 42);
        x.counted(0, 10);
        wentIs(x, 10, 32);
        x.rock(1, 32);
        x.counted(1, 0);
        wentIs(x, 10);
        x.counted(1, 10);
        wentIs(x);
        x.forget();
        x.rock(2, 0);
        x.counted(2, 0);
        wentIs(x, 0, 2, 8, 10, 32, 34, 40, 42);
        x.herd(0, 0, 0, 0, 0);
        x.counted(0, 4);
        wentIs(x, 2, 3);
    }

    /** HEADS, and what is seen off a ROCK, are those of now, not of when it was counted. */
    private static void countsAreOfNow() {
        SealStrait x = new SealStrait();
        x.herd(0, 5, 0, 0, 0);
        x.herd(1, 6, 0, 0, 0);
        x.counted(0, 6);
        wentIs(x, 2);
        x.herd(0, 6, 0, 0, 0);
        wentIs(x, 1, 2);
        x.rock(0, 1);
        wentIs(x, 1, 3);
        Due.write(x, "A!");
        wentIs(x, 1, 3);
        x.done();
        wentIs(x);
    }

    private static void askIs(SealStrait x, int rock, int left) {
        String before = Due.allTold(x);
        due.is("ask(0)", x.ask(0), rock);
        due.is("ask(1)", x.ask(1), left);
        due.isTrue("ask changes nothing", before.equals(Due.allTold(x)));
    }

    private static void ask() {
        SealStrait x = new SealStrait();
        askIs(x, 0, 1);
        for (int h = 0; h < 6; h++) {
            x.herd(h, 1, 0, 0, 0);
        }
        // Off all ROCKS 0 to 6 can be wanting: 3 most often, 20 times.
        askIs(x, 0, 20);
        x.herd(5, 99, 0, 0, 0);
        askIs(x, 0, 10);
        x.rock(0, 31);
        askIs(x, 1, 10);
        for (int r = 0; r < 6; r++) {
            x.rock(r, r == 4 ? 33 : 1);
        }
        askIs(x, 4, 16);
        x.rock(2, 34);
        askIs(x, 2, 16);
        x.counted(4, 100);
        askIs(x, 2, 8);
        for (int r = 0; r < 6; r++) {
            x.rock(r, 0);
        }
        x.forget();
        askIs(x, 0, 64);
        x.counted(0, 1);
        askIs(x, SealStrait.NONE, SealStrait.NONE);
        due.is("ask(-1)", x.ask(-1), SealStrait.OUTSIDE);
        due.is("ask(2)", x.ask(2), SealStrait.OUTSIDE);
        SealStrait most = new SealStrait();
        for (int h = 0; h < 6; h++) {
            most.herd(h, 99, 0, 0, 0);
        }
        askIs(most, 0, 20);
        most.counted(0, 594);
        wentIs(most, 63);
        askIs(most, 0, 1);
    }

    private static void turn(SealStrait x, int m, int wins, int first) {
        due.is("turning(" + m + ", 0)", x.turning(m, 0), wins);
        due.is("turning(" + m + ", 1)", x.turning(m, 1), first);
    }

    private static void turning() {
        SealStrait x = new SealStrait();
        turn(x, 0, 0, SealStrait.NONE);
        turn(x, 2, 0, SealStrait.NONE);
        turn(x, 3, 1, 0);
        turn(x, 8, 0, SealStrait.NONE);
        turn(x, 29, 1, 0);
        turn(x, 30, 0, SealStrait.NONE);
        x.clause(5, 2);
        turn(x, 2, 1, 5);
        turn(x, 4, 1, 0);
        turn(x, 5, 0, SealStrait.NONE);
        // Each CLAUSE once: with 1 WORD each, all ten are read, so who begins has lost.
        for (int c = 0; c < 10; c++) {
            x.clause(c, 1);
        }
        turn(x, 30, 0, SealStrait.NONE);
        turn(x, 9, 1, 0);
        for (int c = 0; c < 9; c++) {
            x.clause(c, 9);
        }
        x.clause(9, 1);
        turn(x, 8, 1, 9);
        turn(x, 9, 1, 0);
        turn(x, 10, 0, SealStrait.NONE);
        due.is("turning(-1, 0)", x.turning(-1, 0), SealStrait.OUTSIDE);
        due.is("turning(31, 0)", x.turning(31, 0), SealStrait.OUTSIDE);
        due.is("turning(0, -1)", x.turning(0, -1), SealStrait.OUTSIDE);
        due.is("turning(0, 2)", x.turning(0, 2), SealStrait.OUTSIDE);
    }

    private static void driftIs(int[] call, long upper, long lower) {
        SealStrait x = new SealStrait();
        String name = "drift(" + call[0] + ", " + call[1] + ", " + call[2] + ", " + call[3] + ", " + call[4] + ", ";
        due.is(name + "0)", x.drift(call[0], call[1], call[2], call[3], call[4], 0), upper);
        due.is(name + "1)", x.drift(call[0], call[1], call[2], call[3], call[4], 1), lower);
    }

    private static void drift() {
        driftIs(new int[] {0, 3, 3, 0, 0}, 0, 1);
        driftIs(new int[] {1, 3, 3, 0, 0}, 1, 1);
        driftIs(new int[] {1, 3, 3, 0, 1}, 0, 1);
        driftIs(new int[] {0, 3, 4, 1, 0}, 3, 10);
        driftIs(new int[] {1, 3, 4, 1, 0}, 3, 5);
        driftIs(new int[] {0, 3, 4, 2, 0}, 39, 100);
        driftIs(new int[] {0, 3, 4, 2, 1}, 69, 100);
        driftIs(new int[] {1, 0, 10, 5, 0}, 0, 1);
        driftIs(new int[] {0, 10, 10, 17, 0}, 1, 1);
        driftIs(new int[] {0, 10, 10, 16, 1}, 8, 1);
        driftIs(new int[] {1, 10, 0, 16, 1}, 16, 1);
        driftIs(new int[] {0, 1, 9, 17, 0}, 1, 10);
        driftIs(new int[] {1, 2, 7, 16, 1}, 36419753086419753L, 10000000000000000L);
        SealStrait x = new SealStrait();
        int[][] wrong = {{-1, 0, 0, 0, 0, 0}, {2, 0, 0, 0, 0, 0}, {0, -1, 0, 0, 0, 0}, {0, 11, 0, 0, 0, 0},
                {0, 0, -1, 0, 0, 0}, {0, 0, 11, 0, 0, 0}, {0, 0, 0, -1, 0, 0}, {0, 0, 0, 18, 0, 0},
                {0, 0, 0, 17, 1, 0}, {0, 0, 0, 0, -1, 0}, {0, 0, 0, 0, 2, 0}, {0, 0, 0, 0, 0, -1}, {0, 0, 0, 0, 0, 2}};
        for (int[] w : wrong) {
            due.is("drift(" + w[0] + ", " + w[1] + ", " + w[2] + ", " + w[3] + ", " + w[4] + ", " + w[5] + ")",
                    x.drift(w[0], w[1], w[2], w[3], w[4], w[5]), REFUSED);
        }
    }

    private static void yearIs(SealStrait x, int seed, int m, int heads, int lost, int moods) {
        String before = Due.allTold(x);
        due.is("year(" + seed + ", " + m + ", 0)", x.year(seed, m, 0), heads);
        due.is("year(" + seed + ", " + m + ", 1)", x.year(seed, m, 1), lost);
        due.is("year(" + seed + ", " + m + ", 2)", x.year(seed, m, 2), moods);
        due.isTrue("year changes nothing", before.equals(Due.allTold(x)));
    }

    private static void year() {
        SealStrait x = new SealStrait();
        yearIs(x, 0, 99, 0, 0, 0);
        x.herd(0, 10, 0, 5, 6);
        x.herd(1, 20, 1, 2, 0);
        x.herd(2, 7, 0, 9, 3);
        yearIs(x, 0, 1, 37, 0, 11);
        x.clause(1, 1);
        yearIs(x, 77, 99, 12, 10, 6);
        yearIs(x, 5, 40, 28, 15, 18);
        // x is 29092, which is 8 times 3636 and 4: a whistle for HERD 0.
        yearIs(x, 9999, 1, 20, 0, 19);
        Due.write(x, "B!");
        x.done();
        // x is 74 (CLAUSE 9 is read), 5624 (CLAUSE 3), 28652 (a whistle for HERD 5, which is not there).
        yearIs(x, 0, 1, 32, 5, 11);
        yearIs(x, 0, 2, 25, 5, 10);
        yearIs(x, 0, 3, 25, 5, 10);
        // x is 3374, which is 8 times 421 and 6: HERD 4 joins HERD 1, if both are on one SIDE.
        x.herd(4, 30, 0, 7, 0);
        yearIs(x, 44, 1, 15, 5, 23);
        x.herd(4, 30, 1, 7, 0);
        yearIs(x, 44, 1, 45, 5, 16);
        int[][] wrong = {{-1, 1, 0}, {10000, 1, 0}, {0, 0, 0}, {0, 100, 0}, {0, 1, -1}, {0, 1, 3}};
        for (int[] w : wrong) {
            due.is("year(" + w[0] + ", " + w[1] + ", " + w[2] + ")", x.year(w[0], w[1], w[2]), SealStrait.OUTSIDE);
        }
    }

    private static void images() {
        SealStrait x = new SealStrait();
        x.herd(0, 10, 0, 5, 6);
        x.herd(1, 20, 0, 5, 6);
        x.clause(3, 7);
        x.clash(1, 2, true);
        x.rock(4, 5);
        x.counted(4, 10);
        Due.write(x, "A!.");
        x.done();
        String kept = Due.allTold(x);
        due.is("image(0)", x.image(0), 1);
        due.is("restore(1) that was not kept", x.restore(1), SealStrait.STATE);
        Due.write(x, "A&B.B");
        due.is("told(0)", x.told(0), 5);
        Due.write(x, "A&B.A!");
        x.done();
        x.clause(3, 1);
        x.clash(1, 2, false);
        x.clash(3, 4, true);
        x.rock(4, 63);
        x.forget();
        x.herd(5, 1, 1, 1, 1);
        due.is("image(1)", x.image(1), 1);
        String second = Due.allTold(x);
        due.isTrue("all is another", !kept.equals(second));
        due.is("restore(0)", x.restore(0), 1);
        due.isTrue("it is as it was, image 0", kept.equals(Due.allTold(x)));
        due.is("went(-1) by the count that was kept", x.went(-1), 0);
        due.is("restore(1)", x.restore(1), 1);
        due.isTrue("it is as it was, image 1", second.equals(Due.allTold(x)));
        // The PAD is not kept, and stays as it is.
        Due.write(x, "ab");
        x.image(1);
        x.wipe();
        x.say('.');
        x.restore(1);
        due.is("told(0) behind restore", x.told(0), 1);
        x.herd(4, 9, 0, 0, 0);
        x.restore(1);
        due.is("told(140) behind another restore", x.told(140), SealStrait.OUTSIDE);
        due.is("image(-1)", x.image(-1), SealStrait.OUTSIDE);
        due.is("image(2)", x.image(2), SealStrait.OUTSIDE);
        due.is("restore(-1)", x.restore(-1), SealStrait.OUTSIDE);
        due.is("restore(2)", x.restore(2), SealStrait.OUTSIDE);
    }

    private static void told() {
        SealStrait x = new SealStrait();
        x.herd(0, 10, 1, 5, 6);
        x.herd(5, 12, 0, 7, 8);
        due.is("told(100)", x.told(100), 10);
        due.is("told(101)", x.told(101), 1);
        due.is("told(102)", x.told(102), 5);
        due.is("told(103)", x.told(103), 6);
        due.is("told(150)", x.told(150), 12);
        due.is("told(153)", x.told(153), 8);
        int[] wrong = {-1, 5, 9, 36, 39, 40, 99, 104, 109, 110, 113, 154, 160, 163,
                Integer.MIN_VALUE, Integer.MAX_VALUE};
        for (int w : wrong) {
            due.is("told(" + w + ")", x.told(w), SealStrait.OUTSIDE);
        }
    }
}
