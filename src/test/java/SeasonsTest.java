/** Promises 9 to 13. */
public final class SeasonsTest {
    private static final Due due = new Due();

    public static void main(String[] args) {
        reasons();
        judgeRefusals();
        readings();
        deeds();
        months();
        lastMonth();
        doneInFact();
        behindAndThen();
        whoSigns();
        due.end();
    }

    /** A: 10 HEADS, SIDE 0, MOOD 5, MOULTS in 6; B: 20, 1, 2, 0; C: 7, 0, 9, 3. */
    private static SealStrait threeHerds() {
        SealStrait x = new SealStrait();
        x.herd(0, 10, 0, 5, 6);
        x.herd(1, 20, 1, 2, 0);
        x.herd(2, 7, 0, 9, 3);
        return x;
    }

    private static void judged(SealStrait x, String text, int act, int why) {
        Due.write(x, text);
        String before = Due.allTold(x);
        due.is("judge(0) of \"" + text + "\"", x.judge(0), act);
        due.is("judge(1) of \"" + text + "\"", x.judge(1), why);
        due.isTrue("judging \"" + text + "\" changes nothing", before.equals(Due.allTold(x)));
        if (act != SealStrait.NONE) {
            due.is("done() of \"" + text + "\"", x.done(), SealStrait.NO);
            due.is("then(0) of \"" + text + "\"", x.then(0), SealStrait.NO);
            due.is("behind(0, 0) of \"" + text + "\"", x.behind(0, 0), SealStrait.NO);
            due.isTrue("\"" + text + "\" that can not be changes nothing", before.equals(Due.allTold(x)));
        }
    }

    private static void reasons() {
        SealStrait x = threeHerds();
        judged(x, "", SealStrait.NONE, SealStrait.NONE);
        judged(x, "a", SealStrait.NONE, SealStrait.NONE);
        judged(x, "D?", 0, 1);
        judged(x, "D!", 0, 1);
        judged(x, "A&D", 0, 1);
        judged(x, "D&A", 0, 1);
        judged(x, "D&D", 0, 1);
        judged(x, "A&CC?", 1, 1);
        judged(x, "A&CA&C", 1, 1);
        judged(x, "aaa", SealStrait.NONE, SealStrait.NONE);
        judged(x, "aaaa", 3, 2);
        judged(x, "C?", 0, 3);
        judged(x, "A?A?A?", 2, 3);
        judged(x, "C!C!", 1, 4);
        judged(x, "A!A!A!", 2, 4);
        judged(x, "A&A", 0, 5);
        judged(x, "A&B", 0, 5);
        judged(x, "B&A", 0, 5);
        judged(x, "A&C", SealStrait.NONE, SealStrait.NONE);
        judged(x, "aB&AB&C", SealStrait.NONE, SealStrait.NONE);
        for (int c = 0; c < 10; c++) {
            x.clause(c, 9);
        }
        judged(x, "aa", 1, 2);
        judged(x, ".aj", 2, 2);
        x.herd(2, 0, 0, 9, 3);
        judged(x, "a", 0, 2);
        x.herd(2, 1, 0, 9, 0);
        judged(x, "a", 0, 2);
        x.herd(2, 1, 0, 9, 1);
        judged(x, "a", SealStrait.NONE, SealStrait.NONE);
        x.herd(0, 0, 0, 9, 3);
        x.herd(1, 0, 0, 9, 3);
        x.herd(2, 0, 0, 9, 3);
        judged(x, "a", 0, 2);
    }

    private static void judgeRefusals() {
        SealStrait x = threeHerds();
        Due.write(x, "A");
        due.is("judge(-1) with a fault", x.judge(-1), SealStrait.OUTSIDE);
        due.is("judge(2) with a fault", x.judge(2), SealStrait.OUTSIDE);
        due.is("judge(0) with a fault", x.judge(0), SealStrait.NO);
        due.is("judge(1) with a fault", x.judge(1), SealStrait.NO);
        due.is("done() with a fault", x.done(), SealStrait.NO);
        due.is("told(0) behind that", x.told(0), 1);
        due.is("then(5) with a fault", x.then(5), SealStrait.OUTSIDE);
        due.is("then(-1) with a fault", x.then(-1), SealStrait.OUTSIDE);
        due.is("then(4) with a fault", x.then(4), SealStrait.NO);
        due.is("behind(3, 9) with a fault", x.behind(3, 9), SealStrait.UNKNOWN);
        due.is("behind(-1, 0) with a fault", x.behind(-1, 0), SealStrait.UNKNOWN);
        due.is("behind(6, 0) with a fault", x.behind(6, 0), SealStrait.UNKNOWN);
        due.is("behind(0, 3) with a fault", x.behind(0, 3), SealStrait.OUTSIDE);
        due.is("behind(0, -1) with a fault", x.behind(0, -1), SealStrait.OUTSIDE);
        due.is("behind(0, 2) with a fault", x.behind(0, 2), SealStrait.NO);
    }

    private static void behindIs(SealStrait x, int herd, int heads, int side, int mood) {
        due.is("behind(" + herd + ", 0)", x.behind(herd, 0), heads);
        due.is("behind(" + herd + ", 1)", x.behind(herd, 1), side);
        due.is("behind(" + herd + ", 2)", x.behind(herd, 2), mood);
    }

    private static void thenIs(SealStrait x, int headsOnOne, int lost, int month, int readings, int signedAll) {
        due.is("then(0)", x.then(0), headsOnOne);
        due.is("then(1)", x.then(1), lost);
        due.is("then(2)", x.then(2), month);
        due.is("then(3)", x.then(3), readings);
        due.is("then(4)", x.then(4), signedAll);
    }

    private static void readings() {
        SealStrait x = threeHerds();
        Due.write(x, "aa");
        behindIs(x, 0, 10, 1, 3);
        behindIs(x, 1, 20, 1, 4);
        behindIs(x, 2, 7, 0, 3);
        thenIs(x, 30, 0, 0, 2, 4);
        x.herd(3, 0, 1, 9, 5);
        x.clause(0, 1);
        Due.write(x, "a");
        behindIs(x, 0, 10, 1, 4);
        behindIs(x, 1, 20, 1, 3);
        behindIs(x, 2, 7, 1, 8);
        behindIs(x, 3, 0, 1, 9);
        thenIs(x, 37, 0, 0, 1, 5);
        x.herd(0, 1, 0, 9, 6);
        x.clause(0, 9);
        Due.write(x, "a");
        behindIs(x, 0, 1, 1, 0);
    }

    private static void deeds() {
        SealStrait x = threeHerds();
        Due.write(x, "A?A?B!");
        behindIs(x, 0, 10, 0, 9);
        behindIs(x, 1, 15, 1, 2);
        thenIs(x, 15, 5, 0, 0, 7);
        x.herd(3, 95, 0, 1, 0);
        Due.write(x, "D&AD&C");
        behindIs(x, 3, 99, 0, 1);
        behindIs(x, 0, SealStrait.NONE, SealStrait.NONE, SealStrait.NONE);
        behindIs(x, 2, SealStrait.NONE, SealStrait.NONE, SealStrait.NONE);
        thenIs(x, 20, 0, 0, 0, 15);
        Due.write(x, "C&A");
        behindIs(x, 2, 17, 0, 9);
        behindIs(x, 0, SealStrait.NONE, SealStrait.NONE, SealStrait.NONE);
        Due.write(x, "aA&C");
        thenIs(x, 37, 0, 0, 1, 5);
        Due.write(x, "A&Ca");
        thenIs(x, 37, 0, 0, 1, 1);
    }

    private static void months() {
        SealStrait x = new SealStrait();
        x.herd(0, 2, 0, 8, 1);
        x.herd(1, 1, 1, 7, 1);
        x.herd(2, 98, 1, 0, 0);
        x.herd(3, 0, 1, 0, 5);
        Due.write(x, ".");
        behindIs(x, 0, 3, 0, 9);
        behindIs(x, 1, 1, 1, 9);
        behindIs(x, 2, 98, 1, 2);
        behindIs(x, 3, 0, 1, 2);
        thenIs(x, 99, 0, 1, 0, 15);
        Due.write(x, "..");
        behindIs(x, 0, 3, 0, 9);
        behindIs(x, 2, 99, 1, 4);
        Due.write(x, "...");
        behindIs(x, 0, 4, 0, 9);
        behindIs(x, 2, 99, 1, 6);
        Due.write(x, ".".repeat(13));
        behindIs(x, 0, 2 + 12, 0, 9);
        thenIs(x, 100, 0, 13, 0, 15);
        // Month 13 is month 1 of a year: who MOULTS in 1 does not listen.
        Due.write(x, ".".repeat(13) + "a");
        thenIs(x, 1, 0, 13, 1, 4);
    }

    /** Month 999 is more than 512 calls away, so what is due there is free; the class holds reason 6 all the same. */
    private static void lastMonth() {
        SealStrait x = new SealStrait();
        x.herd(0, 10, 0, 5, 6);
        for (int i = 0; i < 16; i++) {
            Due.write(x, ".".repeat(60));
            due.is("done() of 60 months", x.done(), 60);
        }
        judged(x, ".".repeat(39), SealStrait.NONE, SealStrait.NONE);
        judged(x, ".".repeat(40), 39, 6);
    }

    private static void doneInFact() {
        SealStrait x = threeHerds();
        Due.write(x, "aB!.A&C");
        due.is("judge(0)", x.judge(0), SealStrait.NONE);
        due.is("done()", x.done(), 4);
        due.is("told(0)", x.told(0), 0);
        due.is("told(1)", x.told(1), 3);
        due.is("told(2)", x.told(2), 1);
        due.is("told(3)", x.told(3), 5);
        due.is("told(100)", x.told(100), 11 + 8);
        due.is("told(101)", x.told(101), 1);
        due.is("told(102)", x.told(102), 4);
        due.is("told(103)", x.told(103), 6);
        due.is("told(110)", x.told(110), 15);
        due.is("told(112)", x.told(112), 5);
        due.is("told(120)", x.told(120), SealStrait.OUTSIDE);
        due.is("behind(2, 0) of who is no more", x.behind(2, 0), SealStrait.UNKNOWN);
        due.is("then(1) of an empty pad", x.then(1), 5);
        due.is("then(4) of an empty pad", x.then(4), 3);
        due.is("done() of an empty pad", x.done(), 0);
        due.is("herd(2, ..) again", x.herd(2, 1, 1, 1, 1), 3);
    }

    private static void behindAndThen() {
        SealStrait x = threeHerds();
        Due.write(x, "aB!.A&C");
        String before = Due.allTold(x);
        behindIs(x, 0, 19, 1, 4);
        behindIs(x, 1, 15, 1, 5);
        behindIs(x, 2, SealStrait.NONE, SealStrait.NONE, SealStrait.NONE);
        thenIs(x, 34, 5, 1, 1, 5);
        due.isTrue("behind and then change nothing", before.equals(Due.allTold(x)));
    }

    private static void whoSigns() {
        SealStrait x = threeHerds();
        due.is("who(0)", x.who(0), 5);
        x.clause(1, 2);
        due.is("who(1) with 2 words, B moulting", x.who(1), 5);
        x.clause(2, 9);
        due.is("who(2) with 9 words", x.who(2), 4);
        x.herd(2, 0, 0, 9, 3);
        due.is("who(2) without heads", x.who(2), 0);
        Due.write(x, ".");
        due.is("who(1) with a month on the pad", x.who(1), 1);
        x.done();
        due.is("who(1) behind a month", x.who(1), 3);
        due.is("who(-1)", x.who(-1), SealStrait.UNKNOWN);
        due.is("who(10)", x.who(10), SealStrait.UNKNOWN);
    }
}
