/** Counts and prints what is not as due, and ends a test. */
final class Due {
    private int rows = 0;
    private int wrong = 0;

    void is(String call, long got, long want) {
        rows++;
        if (got != want) {
            wrong++;
            System.out.println(call + " answered " + got + ", due is " + want);
        }
    }

    void isTrue(String what, boolean holds) {
        is(what, holds ? 1 : 0, 1);
    }

    boolean allAsDue() {
        return wrong == 0;
    }

    void end() {
        System.out.println(wrong == 0 ? rows + " answers are as due" : wrong + " of " + rows + " answers are not as due");
        if (wrong != 0) {
            System.exit(1);
        }
    }

    /** Makes a text the PAD's whole text. */
    static void write(SealStrait strait, String text) {
        strait.wipe();
        for (int i = 0; i < text.length(); i++) {
            strait.say(text.charAt(i));
        }
    }

    /** All that told answers, so that two moments of an object can be compared. */
    static String allTold(SealStrait strait) {
        StringBuilder all = new StringBuilder();
        for (int what = 0; what < 160; what++) {
            all.append(strait.told(what)).append(' ');
        }
        return all.toString();
    }
}
