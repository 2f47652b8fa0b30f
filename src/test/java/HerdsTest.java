/** Promises 1 to 8. */
public final class HerdsTest {
    private static final Due due = new Due();

    public static void main(String[] args) {
        newObject();
        herds();
        clauses();
        clashes();
        rocks();
        pad();
        fault();
        due.end();
    }

    private static void newObject() {
        SealStrait x = new SealStrait();
        for (int what = 0; what <= 4; what++) {
            due.is("new: told(" + what + ")", x.told(what), 0);
        }
        for (int c = 0; c < 10; c++) {
            due.is("new: told(1" + c + ")", x.told(10 + c), 3);
            due.is("new: told(2" + c + ")", x.told(20 + c), 0);
            due.is("new: who(" + c + ")", x.who(c), 0);
        }
        for (int r = 0; r < 6; r++) {
            due.is("new: told(3" + r + ")", x.told(30 + r), 63);
            due.is("new: told(1" + r + "0)", x.told(100 + 10 * r), SealStrait.OUTSIDE);
        }
        due.is("new: fault()", x.fault(), SealStrait.NONE);
        due.is("new: went(-1)", x.went(-1), 1);
        due.is("new: restore(0)", x.restore(0), SealStrait.STATE);
        due.is("new: restore(1)", x.restore(1), SealStrait.STATE);
        SealStrait other = new SealStrait();
        x.herd(0, 1, 1, 1, 1);
        x.clause(0, 9);
        x.say('a');
        due.is("another object's told(1)", other.told(1), 0);
        due.is("another object's told(10)", other.told(10), 3);
        due.is("another object's told(0)", other.told(0), 0);
    }

    private static void herds() {
        SealStrait x = new SealStrait();
        due.is("herd(0, 0, 0, 0, 0)", x.herd(0, 0, 0, 0, 0), 1);
        due.is("herd(5, 99, 1, 9, 11)", x.herd(5, 99, 1, 9, 11), 2);
        due.is("told(1)", x.told(1), 33);
        due.is("told(150)", x.told(150), 99);
        due.is("told(151)", x.told(151), 1);
        due.is("told(152)", x.told(152), 9);
        due.is("told(153)", x.told(153), 11);
        due.is("herd(5, 7, 0, 3, 2) anew", x.herd(5, 7, 0, 3, 2), 2);
        due.is("told(150) anew", x.told(150), 7);
        due.is("told(151) anew", x.told(151), 0);
        due.is("told(152) anew", x.told(152), 3);
        due.is("told(153) anew", x.told(153), 2);
        String before = Due.allTold(x);
        due.is("herd(-1, ..)", x.herd(-1, 0, 0, 0, 0), SealStrait.UNKNOWN);
        due.is("herd(6, ..)", x.herd(6, 0, 0, 0, 0), SealStrait.UNKNOWN);
        due.is("herd(6, 100, 2, 10, 12)", x.herd(6, 100, 2, 10, 12), SealStrait.UNKNOWN);
        due.is("herd(MAX, ..)", x.herd(Integer.MAX_VALUE, 0, 0, 0, 0), SealStrait.UNKNOWN);
        int[][] wrong = {{-1, 0, 0, 0}, {100, 0, 0, 0}, {0, -1, 0, 0}, {0, 2, 0, 0},
                {0, 0, -1, 0}, {0, 0, 10, 0}, {0, 0, 0, -1}, {0, 0, 0, 12}, {Integer.MIN_VALUE, 0, 0, 0}};
        for (int[] w : wrong) {
            due.is("herd(1, " + w[0] + ", " + w[1] + ", " + w[2] + ", " + w[3] + ")",
                    x.herd(1, w[0], w[1], w[2], w[3]), SealStrait.OUTSIDE);
        }
        due.isTrue("refused herds change nothing", before.equals(Due.allTold(x)));
    }

    private static void clauses() {
        SealStrait x = new SealStrait();
        due.is("clause(0, 1)", x.clause(0, 1), 3);
        due.is("clause(0, 9)", x.clause(0, 9), 1);
        due.is("clause(9, 5)", x.clause(9, 5), 3);
        due.is("told(10)", x.told(10), 9);
        due.is("told(19)", x.told(19), 5);
        due.is("clause(-1, 1)", x.clause(-1, 1), SealStrait.UNKNOWN);
        due.is("clause(10, 0)", x.clause(10, 0), SealStrait.UNKNOWN);
        due.is("clause(0, 0)", x.clause(0, 0), SealStrait.OUTSIDE);
        due.is("clause(0, 10)", x.clause(0, 10), SealStrait.OUTSIDE);
        due.is("told(10) behind refusals", x.told(10), 9);
    }

    private static void clashes() {
        SealStrait x = new SealStrait();
        due.is("clash(0, 1, false)", x.clash(0, 1, false), 0);
        due.is("clash(0, 1, true)", x.clash(0, 1, true), 1);
        due.is("clash(1, 0, true) again", x.clash(1, 0, true), 1);
        due.is("clash(9, 1, true)", x.clash(9, 1, true), 2);
        due.is("told(20)", x.told(20), 2);
        due.is("told(21)", x.told(21), 1 + 512);
        due.is("told(29)", x.told(29), 2);
        due.is("clash(1, 0, false)", x.clash(1, 0, false), 1);
        due.is("told(20) behind it", x.told(20), 0);
        due.is("clash(3, 3, true)", x.clash(3, 3, true), SealStrait.UNKNOWN);
        due.is("clash(-1, 3, true)", x.clash(-1, 3, true), SealStrait.UNKNOWN);
        due.is("clash(3, 10, true)", x.clash(3, 10, true), SealStrait.UNKNOWN);
        due.is("clash(3, 32, true)", x.clash(3, 32, true), SealStrait.UNKNOWN);
        due.is("told(23) behind refusals", x.told(23), 0);
        int pairs = 0;
        SealStrait full = new SealStrait();
        for (int a = 0; a < 10; a++) {
            for (int b = a + 1; b < 10; b++) {
                pairs++;
                due.is("clash(" + a + ", " + b + ", true) of all", full.clash(a, b, true), pairs);
            }
        }
    }

    private static void rocks() {
        SealStrait x = new SealStrait();
        due.is("rock(0, 0)", x.rock(0, 0), 63);
        due.is("rock(0, 63)", x.rock(0, 63), 0);
        due.is("rock(5, 17)", x.rock(5, 17), 63);
        due.is("told(35)", x.told(35), 17);
        due.is("rock(-1, 0)", x.rock(-1, 0), SealStrait.UNKNOWN);
        due.is("rock(6, 64)", x.rock(6, 64), SealStrait.UNKNOWN);
        due.is("rock(5, -1)", x.rock(5, -1), SealStrait.OUTSIDE);
        due.is("rock(5, 64)", x.rock(5, 64), SealStrait.OUTSIDE);
        due.is("told(35) behind refusals", x.told(35), 17);
    }

    private static void pad() {
        SealStrait x = new SealStrait();
        due.is("say(32)", x.say(32), SealStrait.OUTSIDE);
        due.is("say(127)", x.say(127), SealStrait.OUTSIDE);
        due.is("say(-1)", x.say(-1), SealStrait.OUTSIDE);
        due.is("wipe() of none", x.wipe(), 0);
        due.is("say(33)", x.say(33), 1);
        due.is("say(126)", x.say(126), 2);
        for (int i = 3; i <= 60; i++) {
            due.is("say('.') as number " + i, x.say('.'), i);
        }
        due.is("say('.') as number 61", x.say('.'), SealStrait.FULL);
        due.is("say(32) on a full pad", x.say(32), SealStrait.OUTSIDE);
        due.is("told(0) of a full pad", x.told(0), 60);
        due.is("wipe() of a full pad", x.wipe(), 60);
        due.is("told(0) behind wipe()", x.told(0), 0);
        due.is("say('a') behind wipe()", x.say('a'), 1);
    }

    private static void fault() {
        faultOf("", SealStrait.NONE);
        faultOf("a", SealStrait.NONE);
        faultOf("j", SealStrait.NONE);
        faultOf("k", 0);
        faultOf("`", 0);
        faultOf(".", SealStrait.NONE);
        faultOf("A", 1);
        faultOf("F", 1);
        faultOf("G", 0);
        faultOf("@", 0);
        faultOf("?", 0);
        faultOf("!", 0);
        faultOf("&", 0);
        faultOf("A?", SealStrait.NONE);
        faultOf("A!", SealStrait.NONE);
        faultOf("A&", 2);
        faultOf("A&B", SealStrait.NONE);
        faultOf("A&A", SealStrait.NONE);
        faultOf("A&G", 2);
        faultOf("A&b", 2);
        faultOf("A.", 1);
        faultOf("Aa", 1);
        faultOf("AB", 1);
        faultOf("A??", 2);
        faultOf("A&B?", 3);
        faultOf("A&B&C", 3);
        faultOf("a.F?jE!D&C.", SealStrait.NONE);
        faultOf("a.F?jE!D&C.A", 12);
        faultOf("a.F?jE!D&C.A&", 13);
        faultOf("a.xA", 2);
        faultOf("A&B".repeat(20), SealStrait.NONE);
        faultOf("A&B".repeat(19) + ".A&", 60);
        faultOf(".".repeat(59) + "A", 60);
        faultOf(".".repeat(59) + "x", 59);
    }

    private static void faultOf(String text, int want) {
        SealStrait x = new SealStrait();
        Due.write(x, text);
        due.is("fault() of \"" + text + "\"", x.fault(), want);
        due.is("told(0) behind fault() of \"" + text + "\"", x.told(0), text.length());
    }
}
