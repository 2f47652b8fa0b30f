/** Promises 14 to 18. */
public final class BringingTest {
    private static final Due due = new Due();
    private static final long REFUSED = SealStrait.LOST + SealStrait.OUTSIDE;

    public static void main(String[] args) {
        bring();
        bringRefusals();
        bringHindered();
        drop();
        share();
        waiting();
        reads();
        due.end();
    }

    private static void brought(SealStrait x, int[] call, int many, int first) {
        String name = "bring(" + call[0] + ", " + call[1] + ", " + call[2] + ", " + call[3] + ", ";
        String before = Due.allTold(x);
        due.is(name + "0)", x.bring(call[0], call[1], call[2], call[3], 0), many);
        due.is(name + "1)", x.bring(call[0], call[1], call[2], call[3], 1), first);
        due.isTrue(name + "..) changes nothing", before.equals(Due.allTold(x)));
    }

    private static void bring() {
        SealStrait x = new SealStrait();
        x.herd(0, 10, 0, 5, 6);
        x.herd(1, 20, 1, 2, 0);
        x.herd(2, 7, 0, 9, 3);
        brought(x, new int[] {0, 0, 2, 0}, 0, SealStrait.NONE);
        brought(x, new int[] {0, 1, 2, 1}, 1, 0);
        brought(x, new int[] {0, 1, 2, 0}, 2, 0);
        brought(x, new int[] {0, 0, 2, 1}, 3, 0);
        brought(x, new int[] {2, 1, 0, 0}, 3, 0);
        x.clause(7, 6);
        brought(x, new int[] {0, 0, 2, 1}, 1, 7);
        x.clause(4, 9);
        brought(x, new int[] {0, 0, 2, 1}, 1, 4);
        // B MOULTS in month 0: it stays where it is.
        brought(x, new int[] {1, 0, 0, 0}, SealStrait.NONE, SealStrait.NONE);
        brought(x, new int[] {1, 1, 0, 1}, 1, 0);
        x.wipe();
        x.say('.');
        brought(x, new int[] {1, 0, 0, 0}, SealStrait.NONE, SealStrait.NONE);
        x.done();
        brought(x, new int[] {1, 0, 2, 1}, 1, 0);
    }

    /** Readings that nobody SIGNS count, and raise MOODS. */
    private static void bringHindered() {
        SealStrait x = new SealStrait();
        for (int c = 0; c < 10; c++) {
            x.clause(c, 9);
        }
        x.herd(0, 1, 0, 0, 6);
        x.herd(1, 1, 0, 0, 6);
        brought(x, new int[] {0, 1, 1, 1}, 10, 0);
        brought(x, new int[] {0, 1, 1, 0}, SealStrait.NONE, SealStrait.NONE);
        x.herd(1, 1, 0, 4, 6);
        brought(x, new int[] {0, 0, 1, 1}, 6, 0);
        brought(x, new int[] {0, 1, 1, 1}, 10, 0);
        brought(x, new int[] {0, 1, 1, 0}, 16, 0);
        x.herd(1, 0, 0, 9, 6);
        brought(x, new int[] {0, 1, 1, 0}, 10, 0);
        brought(x, new int[] {0, 1, 1, 1}, SealStrait.NONE, SealStrait.NONE);
        x.clause(3, 2);
        brought(x, new int[] {0, 1, 1, 0}, 3, 0);
    }

    private static void bringRefusals() {
        SealStrait x = new SealStrait();
        x.herd(0, 10, 0, 5, 6);
        x.herd(1, 20, 1, 2, 0);
        due.is("bring of one and itself", x.bring(0, 0, 0, 0, 0), SealStrait.UNKNOWN);
        due.is("bring(0, 9, 2, 9, 9)", x.bring(0, 9, 2, 9, 9), SealStrait.UNKNOWN);
        due.is("bring(2, 0, 0, 0, 0)", x.bring(2, 0, 0, 0, 0), SealStrait.UNKNOWN);
        due.is("bring(-1, 0, 0, 0, 0)", x.bring(-1, 0, 0, 0, 0), SealStrait.UNKNOWN);
        due.is("bring(0, 0, 6, 0, 0)", x.bring(0, 0, 6, 0, 0), SealStrait.UNKNOWN);
        due.is("bring(0, -1, 1, 0, 0)", x.bring(0, -1, 1, 0, 0), SealStrait.OUTSIDE);
        due.is("bring(0, 2, 1, 0, 0)", x.bring(0, 2, 1, 0, 0), SealStrait.OUTSIDE);
        due.is("bring(0, 0, 1, -1, 0)", x.bring(0, 0, 1, -1, 0), SealStrait.OUTSIDE);
        due.is("bring(0, 0, 1, 2, 0)", x.bring(0, 0, 1, 2, 0), SealStrait.OUTSIDE);
        due.is("bring(0, 0, 1, 0, -1)", x.bring(0, 0, 1, 0, -1), SealStrait.OUTSIDE);
        due.is("bring(0, 0, 1, 0, 2)", x.bring(0, 0, 1, 0, 2), SealStrait.OUTSIDE);
    }

    private static void dropped(SealStrait x, int set, int many, int which) {
        due.is("drop(" + set + ", 0)", x.drop(set, 0), many);
        due.is("drop(" + set + ", 1)", x.drop(set, 1), which);
    }

    private static void drop() {
        SealStrait x = new SealStrait();
        dropped(x, 0, 0, 0);
        dropped(x, 1023, 0, 0);
        x.clash(0, 1, true);
        dropped(x, 1023, 1, 1);
        dropped(x, 2, 0, 0);
        x.clash(1, 2, true);
        dropped(x, 7, 1, 2);
        dropped(x, 6, 1, 2);
        // A ring of five wants three of its five dropped.
        x.clash(2, 3, true);
        x.clash(3, 4, true);
        x.clash(4, 0, true);
        dropped(x, 31, 3, 1 + 2 + 8);
        dropped(x, 1023, 3, 1 + 2 + 8);
        dropped(x, 30, 2, 2 + 8);
        x.clash(9, 8, true);
        dropped(x, 512 + 256, 1, 256);
        SealStrait full = new SealStrait();
        for (int a = 0; a < 10; a++) {
            for (int b = a + 1; b < 10; b++) {
                full.clash(a, b, true);
            }
        }
        dropped(full, 1023, 9, 511);
        due.is("drop(-1, 0)", x.drop(-1, 0), SealStrait.OUTSIDE);
        due.is("drop(1024, 0)", x.drop(1024, 0), SealStrait.OUTSIDE);
        due.is("drop(0, -1)", x.drop(0, -1), SealStrait.OUTSIDE);
        due.is("drop(0, 2)", x.drop(0, 2), SealStrait.OUTSIDE);
    }

    private static void share() {
        SealStrait x = new SealStrait();
        x.herd(5, 0, 0, 0, 0);
        due.is("share(5, 0) without heads", x.share(5, 0), SealStrait.NONE);
        due.is("share(5, 9) without heads", x.share(5, 9), SealStrait.NONE);
        due.is("share(5, 100) without heads", x.share(5, 100), SealStrait.OUTSIDE);
        x.herd(1, 3, 0, 0, 0);
        x.herd(3, 3, 1, 0, 0);
        x.herd(4, 1, 1, 0, 0);
        int[][] byRounds = {{0, 0, 0}, {1, 0, 0}, {1, 1, 0}, {2, 1, 0}, {2, 2, 0}, {3, 2, 0}, {3, 3, 0}, {3, 3, 1}};
        for (int r = 0; r < byRounds.length; r++) {
            due.is("share(5, " + r + ")", x.share(5, r), 0);
            due.is("share(1, " + r + ")", x.share(1, r), byRounds[r][0]);
            due.is("share(3, " + r + ")", x.share(3, r), byRounds[r][1]);
            due.is("share(4, " + r + ")", x.share(4, r), byRounds[r][2]);
        }
        SealStrait alone = new SealStrait();
        alone.herd(0, 1, 0, 0, 0);
        alone.herd(1, 0, 0, 0, 0);
        due.is("share(0, 0) of one head in all", alone.share(0, 0), 0);
        due.is("share(0, 99) of one head in all", alone.share(0, 99), 99);
        due.is("share(1, 99) of one head in all", alone.share(1, 99), 0);
        SealStrait exact = new SealStrait();
        exact.herd(0, 5, 0, 0, 0);
        exact.herd(1, 8, 0, 0, 0);
        // 8 by 3 is more than 5 by 2; cut, both were 2.
        due.is("share(0, 4)", exact.share(0, 4), 1);
        due.is("share(1, 4)", exact.share(1, 4), 3);
        exact.herd(2, 99, 0, 0, 0);
        due.is("share(2, 99)", exact.share(2, 99), 88);
        due.is("share(0, -1)", exact.share(0, -1), SealStrait.OUTSIDE);
        due.is("share(0, 100)", exact.share(0, 100), SealStrait.OUTSIDE);
        due.is("share(3, 100)", exact.share(3, 100), SealStrait.UNKNOWN);
        due.is("share(-1, 0)", exact.share(-1, 0), SealStrait.UNKNOWN);
        due.is("share(6, 0)", exact.share(6, 0), SealStrait.UNKNOWN);
    }

    private static void mean(int n, int m, long upper, long lower) {
        SealStrait x = new SealStrait();
        due.is("waiting(" + n + ", " + m + ", 0)", x.waiting(n, m, 0), upper);
        due.is("waiting(" + n + ", " + m + ", 1)", x.waiting(n, m, 1), lower);
    }

    private static void waiting() {
        mean(1, 1, 1, 2);
        mean(1, 2, 1, 1);
        mean(1, 9, 9, 2);
        mean(2, 2, 4, 3);
        mean(2, 9, 23, 4);
        mean(3, 2, 14, 9);
        mean(12, 1, 4095, 4096);
        mean(12, 9, 645367383L, 78125000L);
        SealStrait x = new SealStrait();
        int[][] wrong = {{0, 1, 0}, {13, 1, 0}, {-1, 1, 0}, {1, 0, 0}, {1, 10, 0}, {1, 1, -1}, {1, 1, 2}};
        for (int[] w : wrong) {
            due.is("waiting(" + w[0] + ", " + w[1] + ", " + w[2] + ")", x.waiting(w[0], w[1], w[2]), REFUSED);
        }
    }

    private static void reads() {
        SealStrait x = new SealStrait();
        due.is("reads(1, 9)", x.reads(1, 9), 0);
        due.is("reads(1, 1)", x.reads(1, 1), 0);
        due.is("reads(2, 9)", x.reads(2, 9), 5);
        // As good as waiting is enough: the mean of 0 to 2 is 1, of 0 to 8 is 4.
        due.is("reads(2, 2)", x.reads(2, 2), 1);
        due.is("reads(2, 8)", x.reads(2, 8), 4);
        due.is("reads(3, 2)", x.reads(3, 2), 2);
        due.is("reads(12, 9)", x.reads(12, 9), 9);
        due.is("reads(0, 1)", x.reads(0, 1), SealStrait.OUTSIDE);
        due.is("reads(13, 1)", x.reads(13, 1), SealStrait.OUTSIDE);
        due.is("reads(1, 0)", x.reads(1, 0), SealStrait.OUTSIDE);
        due.is("reads(1, 10)", x.reads(1, 10), SealStrait.OUTSIDE);
    }
}
