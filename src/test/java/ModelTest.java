import java.util.Random;

/** Promises 1 to 28: drawn runs of at most 512 calls, each call's answer against the model's. */
public final class ModelTest {
    private static final int RUNS = 300;
    private static final int CALLS = 512;
    private static final int[] FAR = {Integer.MIN_VALUE, Integer.MAX_VALUE, -1000, -7, -2, -1, 64, 1000, 1024, 65536};
    private static final String SIGNS = "abcdefghij....ABCDEF?!&";
    private static final Due due = new Due();

    private final Random draws;
    /** Of 100 numbers so many are not as told. */
    private final int wrongs;
    private final SealStrait x = new SealStrait();
    private final Model model = new Model();

    private ModelTest(int seed) {
        draws = new Random(seed);
        wrongs = seed % 10 == 0 ? 40 : seed % 3;
    }

    public static void main(String[] args) {
        for (int seed = 1; seed <= RUNS && due.allAsDue(); seed++) {
            new ModelTest(seed).run(seed);
        }
        for (int side = 0; side <= 1; side++) {
            allDrifts(side);
        }
        allWaits();
        due.end();
    }

    private static void allDrifts(int side) {
        SealStrait x = new SealStrait();
        Model model = new Model();
        for (int a = 0; a <= 10; a++) {
            for (int b = 0; b <= 10; b++) {
                for (int n = 15; n <= 17; n++) {
                    for (int rest = 0; rest < 4; rest++) {
                        due.is("drift(" + side + ", " + a + ", " + b + ", " + n + ", " + rest / 2 + ", " + rest % 2 + ")",
                                x.drift(side, a, b, n, rest / 2, rest % 2),
                                model.drift(side, a, b, n, rest / 2, rest % 2));
                    }
                }
            }
        }
    }

    private static void allWaits() {
        SealStrait x = new SealStrait();
        Model model = new Model();
        for (int n = 0; n <= 13; n++) {
            for (int m = 0; m <= 10; m++) {
                due.is("waiting(" + n + ", " + m + ", 0)", x.waiting(n, m, 0), model.waiting(n, m, 0));
                due.is("waiting(" + n + ", " + m + ", 1)", x.waiting(n, m, 1), model.waiting(n, m, 1));
                due.is("reads(" + n + ", " + m + ")", x.reads(n, m), model.reads(n, m));
            }
        }
    }

    private void run(int seed) {
        int calls = 0;
        // Most runs want some HERDS, and CLAUSES of several lengths, before anything can happen.
        for (int h = draws.nextInt(4); h < 6; h++) {
            setHerd(seed, calls++, h);
        }
        for (int c = draws.nextInt(11); c < 10; c++) {
            int words = from(1, 9);
            check(seed, calls++, "clause(" + c + ", " + words + ")", x.clause(c, words), model.clause(c, words));
        }
        if (seed % 4 == 0) {
            calls = passMonths(seed, calls, 1 + draws.nextInt(60));
        }
        while (calls < CALLS) {
            step(seed, calls++, draws.nextInt(40));
        }
    }

    /** Some runs begin late, as drawn months alone seldom make a year. */
    private int passMonths(int seed, int calls, int months) {
        int place = calls;
        for (int i = 0; i < months; i++) {
            check(seed, place++, "say('.')", x.say('.'), model.say('.'));
        }
        check(seed, place++, "done()", x.done(), model.done());
        return place;
    }

    private int from(int least, int most) {
        if (draws.nextInt(100) < wrongs) {
            int way = draws.nextInt(4);
            return way == 0 ? least - 1 : way == 1 ? most + 1 : FAR[draws.nextInt(FAR.length)];
        }
        return least + draws.nextInt(most - least + 1);
    }

    private static void check(int seed, int place, String call, long got, long want) {
        due.is("run " + seed + ", call " + place + ": " + call, got, want);
    }

    private void setHerd(int seed, int place, int h) {
        // In some runs HERDS have few HEADS or none, so that nobody SIGNS, and there is nothing to share by.
        int heads = seed % 7 == 0 ? from(0, seed % 14 == 0 ? 1 : 0) : draws.nextInt(3) == 0 ? from(0, 99) : from(0, 12);
        int side = from(0, 1), mood = from(0, 9), moults = from(0, 11);
        check(seed, place, "herd(" + h + ", " + heads + ", " + side + ", " + mood + ", " + moults + ")",
                x.herd(h, heads, side, mood, moults), model.herd(h, heads, side, mood, moults));
    }

    /** A sign that mostly can stand behind what is there. */
    private int drawSign() {
        int fault = model.fault();
        if (draws.nextInt(100) < 2 * wrongs) {
            return from(33, 126);
        }
        if (fault == SealStrait.NONE) {
            return SIGNS.charAt(draws.nextInt(SIGNS.length() - 3));
        }
        return SIGNS.charAt(SIGNS.length() - 9 + draws.nextInt(9));
    }

    private void step(int seed, int place, int kind) {
        if (kind < 10) {
            int sign = drawSign();
            check(seed, place, "say(" + sign + ")", x.say(sign), model.say(sign));
        } else if (kind < 20) {
            stepOfSeasons(seed, place, kind - 10);
        } else if (kind < 30) {
            stepOfSets(seed, place, kind - 20);
        } else {
            stepOfRest(seed, place, kind - 30);
        }
    }

    private void stepOfSeasons(int seed, int place, int kind) {
        int what = from(0, 1), herd = from(0, 5), of = from(0, 2), all = from(0, 4), clause = from(0, 9);
        switch (kind) {
            case 0 -> check(seed, place, "fault()", x.fault(), model.fault());
            case 1, 2 -> check(seed, place, "judge(" + what + ")", x.judge(what), model.judge(what));
            case 3 -> check(seed, place, "done()", x.done(), model.done());
            case 4, 5 -> check(seed, place, "behind(" + herd + ", " + of + ")",
                    x.behind(herd, of), model.behind(herd, of));
            case 6, 7 -> check(seed, place, "then(" + all + ")", x.then(all), model.then(all));
            case 8 -> check(seed, place, "who(" + clause + ")", x.who(clause), model.who(clause));
            default -> {
                if (model.judge(0) != SealStrait.NONE) {
                    check(seed, place, "wipe()", x.wipe(), model.wipe());
                } else {
                    check(seed, place, "told(0)", x.told(0), model.told(0));
                }
            }
        }
    }

    private void stepOfSets(int seed, int place, int kind) {
        int a = from(0, 9), b = from(0, 9), words = from(1, 9), set = from(0, 1023), what = from(0, 1);
        int rock = from(0, 5), seen = from(0, 63), herd = from(0, 5), other = from(0, 5), r = from(0, 99);
        int side = from(0, 1), sideOther = from(0, 1);
        boolean is = draws.nextInt(4) > 0;
        switch (kind) {
            case 0 -> setHerd(seed, place, herd);
            case 1 -> check(seed, place, "clause(" + a + ", " + words + ")", x.clause(a, words), model.clause(a, words));
            case 2, 3 -> check(seed, place, "clash(" + a + ", " + b + ", " + is + ")",
                    x.clash(a, b, is), model.clash(a, b, is));
            case 4 -> check(seed, place, "rock(" + rock + ", " + seen + ")", x.rock(rock, seen), model.rock(rock, seen));
            case 5, 6, 7 -> check(seed, place,
                    "bring(" + herd + ", " + side + ", " + other + ", " + sideOther + ", " + what + ")",
                    x.bring(herd, side, other, sideOther, what), model.bring(herd, side, other, sideOther, what));
            case 8 -> check(seed, place, "drop(" + set + ", " + what + ")", x.drop(set, what), model.drop(set, what));
            default -> check(seed, place, "share(" + herd + ", " + r + ")", x.share(herd, r), model.share(herd, r));
        }
    }

    private void stepOfRest(int seed, int place, int kind) {
        int what = from(0, 1), rock = from(0, 5), i = from(-2, 9), m = from(0, 30), n = from(0, 17), part = from(0, 1);
        int a = from(0, 10), b = from(0, 10), side = from(0, 1), from = from(0, 9999), acts = from(1, 99), of = from(0, 2);
        int told = from(-1, 161);
        switch (kind) {
            case 0 -> {
                // What is wanting by some set that fits, mostly, so that COUNTS do not rule all out at once.
                int wanting = draws.nextInt(5) == 0 ? from(0, 999) : wantingOff(rock);
                check(seed, place, "counted(" + rock + ", " + wanting + ")",
                        x.counted(rock, wanting), model.counted(rock, wanting));
            }
            case 1 -> {
                if (model.went(-1) == 0 || draws.nextInt(8) == 0) {
                    check(seed, place, "forget()", x.forget(), model.forget());
                } else {
                    check(seed, place, "told(4)", x.told(4), model.told(4));
                }
            }
            case 2 -> check(seed, place, "went(" + i + ")", x.went(i), model.went(i));
            case 3 -> check(seed, place, "ask(" + what + ")", x.ask(what), model.ask(what));
            case 4 -> check(seed, place, "turning(" + m + ", " + what + ")", x.turning(m, what), model.turning(m, what));
            case 5 -> check(seed, place,
                    "drift(" + side + ", " + a + ", " + b + ", " + n + ", " + what + ", " + part + ")",
                    x.drift(side, a, b, n, what, part), model.drift(side, a, b, n, what, part));
            case 6 -> check(seed, place, "year(" + from + ", " + acts + ", " + of + ")",
                    x.year(from, acts, of), model.year(from, acts, of));
            case 7 -> check(seed, place, "image(" + what + ")", x.image(what), model.image(what));
            case 8 -> check(seed, place, "restore(" + what + ")", x.restore(what), model.restore(what));
            default -> check(seed, place, "told(" + told + ")", x.told(told), model.told(told));
        }
    }

    private int wantingOff(int rock) {
        int many = model.went(-1);
        if (many <= 0 || rock < 0 || rock > 5) {
            return 0;
        }
        int set = model.went(draws.nextInt(many)) & model.told(30 + rock);
        int sum = 0;
        for (int h = 0; h < 6; h++) {
            sum += (set & 1 << h) != 0 ? model.told(100 + 10 * h) : 0;
        }
        return sum;
    }
}
