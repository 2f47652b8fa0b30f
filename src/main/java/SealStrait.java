import java.util.Arrays;

/**
 * Treaties of a strait that are with its seals. HERDS, CLAUSES, ROCKS and COUNTS are set by calls; SEASONS are
 * written on a PAD, judged, and done. Sets are bits, and a call that is refused changes nothing.
 */
public final class SealStrait {
    public static final int NONE = -6, UNKNOWN = -1, OUTSIDE = -2, STATE = -3, FULL = -4, NO = -5;
    public static final long LOST = -1000000000000000000L;

    private static final int HERDS = 6;
    private static final int ALL_HERDS = (1 << HERDS) - 1;
    private static final int CLAUSES = 10;
    private static final int ALL_CLAUSES = (1 << CLAUSES) - 1;
    private static final int ROCKS = 6;
    private static final int IMAGES = 2;
    private static final int MONTHS = 12;
    private static final int LAST_MONTH = 999;
    private static final int MOST_HEADS = 99;
    private static final int MOST_MOOD = 9;

    private final Sea sea = new Sea();
    private final Treaty treaty = new Treaty();
    private final Lookout lookout = new Lookout();
    private final Pad pad = new Pad();
    private final Image[] images = new Image[IMAGES];

    // Rows that calls use again, so that no call makes new ones.
    private final Trial trial = new Trial();
    private final Bringing bringing = new Bringing();
    private final Guess guess = new Guess();
    private final Game game = new Game();
    private final Fraction fraction = new Fraction();
    private final int[] got = new int[HERDS];

    public SealStrait() {
    }

    // ---- 1 herds, clauses, seasons

    public int herd(int herd, int heads, int side, int mood, int moults) {
        if (!within(herd, 0, HERDS - 1)) {
            return UNKNOWN;
        }
        if (!within(heads, 0, MOST_HEADS) || !within(side, 0, 1)
                || !within(mood, 0, MOST_MOOD) || !within(moults, 0, MONTHS - 1)) {
            return OUTSIDE;
        }
        sea.settle(herd, heads, side, mood, moults);
        return Integer.bitCount(sea.there);
    }

    public int clause(int clause, int words) {
        if (!within(clause, 0, CLAUSES - 1)) {
            return UNKNOWN;
        }
        if (!within(words, 1, 9)) {
            return OUTSIDE;
        }
        int had = treaty.words[clause];
        treaty.words[clause] = words;
        return had;
    }

    public int clash(int a, int b, boolean is) {
        if (!within(a, 0, CLAUSES - 1) || !within(b, 0, CLAUSES - 1) || a == b) {
            return UNKNOWN;
        }
        treaty.setClash(a, b, is);
        treaty.setClash(b, a, is);
        return treaty.clashingPairs();
    }

    public int rock(int rock, int herds) {
        if (!within(rock, 0, ROCKS - 1)) {
            return UNKNOWN;
        }
        if (!within(herds, 0, ALL_HERDS)) {
            return OUTSIDE;
        }
        int were = lookout.seen[rock];
        lookout.seen[rock] = herds;
        return were;
    }

    public int say(int sign) {
        if (!within(sign, Pad.FIRST_SIGN, Pad.LAST_SIGN)) {
            return OUTSIDE;
        }
        if (!pad.write(sign)) {
            return FULL;
        }
        return pad.size;
    }

    public int wipe() {
        int were = pad.size;
        pad.size = 0;
        return were;
    }

    public int fault() {
        return pad.faultPlace();
    }

    // ---- 2 seasons

    public int judge(int what) {
        if (!within(what, 0, 1)) {
            return OUTSIDE;
        }
        trial.run(pad, sea, treaty);
        if (trial.isFaulty) {
            return NO;
        }
        if (trial.why == Sea.CAN_BE) {
            return NONE;
        }
        return what == 0 ? trial.acts : trial.why;
    }

    public int done() {
        trial.run(pad, sea, treaty);
        if (!trial.allCanBe()) {
            return NO;
        }
        sea.copyFrom(trial.sea);
        pad.size = 0;
        return trial.acts;
    }

    public int behind(int herd, int what) {
        if (!sea.isThere(herd)) {
            return UNKNOWN;
        }
        if (!within(what, 0, 2)) {
            return OUTSIDE;
        }
        trial.run(pad, sea, treaty);
        if (!trial.allCanBe()) {
            return NO;
        }
        return trial.sea.isThere(herd) ? trial.sea.traitOf(herd, what) : NONE;
    }

    public int then(int what) {
        if (!within(what, 0, 4)) {
            return OUTSIDE;
        }
        trial.run(pad, sea, treaty);
        if (!trial.allCanBe()) {
            return NO;
        }
        switch (what) {
            case 0:
                return trial.sea.headsOnSideOne();
            case 1:
                return trial.sea.lost;
            case 2:
                return trial.sea.month;
            case 3:
                return trial.readings;
            default:
                return trial.signedAll;
        }
    }

    public int who(int clause) {
        if (!within(clause, 0, CLAUSES - 1)) {
            return UNKNOWN;
        }
        return sea.signers(treaty.words[clause]);
    }

    // ---- 3 bringing, dropping, shares, waiting

    public int bring(int one, int sideOne, int other, int sideOther, int what) {
        if (!sea.isThere(one) || !sea.isThere(other) || one == other) {
            return UNKNOWN;
        }
        if (!within(sideOne, 0, 1) || !within(sideOther, 0, 1) || !within(what, 0, 1)) {
            return OUTSIDE;
        }
        bringing.begin(sea, one, other);
        bringing.search(treaty, sideOne, sideOther);
        return what == 0 ? bringing.fewest : bringing.firstClause;
    }

    public int drop(int set, int what) {
        if (!within(set, 0, ALL_CLAUSES) || !within(what, 0, 1)) {
            return OUTSIDE;
        }
        int dropped = treaty.leastToDrop(set);
        return what == 0 ? Integer.bitCount(dropped) : dropped;
    }

    public int share(int herd, int r) {
        if (!sea.isThere(herd)) {
            return UNKNOWN;
        }
        if (!within(r, 0, 99)) {
            return OUTSIDE;
        }
        if (!sea.hasHeads()) {
            return NONE;
        }
        Arrays.fill(got, 0);
        for (int i = 0; i < r; i++) {
            int next = sea.nextToGet(got);
            if (within(next, 0, HERDS - 1)) {
                got[next]++;
            }
        }
        return got[herd];
    }

    public long waiting(int n, int m, int part) {
        if (!waitIsAsTold(n, m) || !within(part, 0, 1)) {
            return LOST + OUTSIDE;
        }
        fraction.setWaiting(n, m);
        return fraction.part(part);
    }

    public int reads(int n, int m) {
        if (!waitIsAsTold(n, m)) {
            return OUTSIDE;
        }
        fraction.setWaiting(n - 1, m);
        return fraction.leastWholeNotBelow(m);
    }

    private static boolean waitIsAsTold(int n, int m) {
        return within(n, 1, 12) && within(m, 1, MOST_MOOD);
    }

    // ---- 4 who went, turns, drifting

    public int counted(int rock, int wanting) {
        if (!within(rock, 0, ROCKS - 1)) {
            return UNKNOWN;
        }
        if (!within(wanting, 0, 999)) {
            return OUTSIDE;
        }
        if (!lookout.addCount(rock, wanting)) {
            return FULL;
        }
        return lookout.counts;
    }

    public int forget() {
        int were = lookout.counts;
        lookout.counts = 0;
        return were;
    }

    public int went(int i) {
        if (i < -1) {
            return NONE;
        }
        guess.findSets(lookout, sea);
        return i == -1 ? guess.size : guess.setAt(i);
    }

    public int ask(int what) {
        if (!within(what, 0, 1)) {
            return OUTSIDE;
        }
        guess.findSets(lookout, sea);
        if (guess.size == 0) {
            return NONE;
        }
        guess.findNextRock(lookout, sea);
        return what == 0 ? guess.nextRock : guess.leftAtMost;
    }

    public int turning(int m, int what) {
        if (!within(m, 0, 30) || !within(what, 0, 1)) {
            return OUTSIDE;
        }
        int first = game.winningFirst(treaty, m);
        if (what == 1) {
            return first;
        }
        return first == NONE ? 0 : 1;
    }

    public long drift(int side, int a, int b, int n, int what, int part) {
        if (!within(side, 0, 1) || !within(a, 0, 10) || !within(b, 0, 10)
                || !within(what, 0, 1) || !within(part, 0, 1) || !within(n, 0, what == 0 ? 17 : 16)) {
            return LOST + OUTSIDE;
        }
        fraction.setDrift(side, a, b, n, what);
        return fraction.part(part);
    }

    public int year(int seed, int m, int what) {
        if (!within(seed, 0, 9999) || !within(m, 1, 99) || !within(what, 0, 2)) {
            return OUTSIDE;
        }
        trial.runYear(seed, m, sea, treaty);
        switch (what) {
            case 0:
                return trial.sea.headsOnSideOne();
            case 1:
                return trial.sea.lost;
            default:
                return trial.sea.allMoods();
        }
    }

    public int image(int n) {
        if (!within(n, 0, IMAGES - 1)) {
            return OUTSIDE;
        }
        Image kept = images[n];
        if (kept == null) {
            kept = new Image();
            images[n] = kept;
        }
        kept.sea.copyFrom(sea);
        kept.treaty.copyFrom(treaty);
        kept.lookout.copyFrom(lookout);
        return 1;
    }

    public int restore(int n) {
        if (!within(n, 0, IMAGES - 1)) {
            return OUTSIDE;
        }
        Image kept = images[n];
        if (kept == null) {
            return STATE;
        }
        sea.copyFrom(kept.sea);
        treaty.copyFrom(kept.treaty);
        lookout.copyFrom(kept.lookout);
        return 1;
    }

    public int told(int what) {
        if (within(what, 10, 10 + CLAUSES - 1)) {
            return treaty.words[what - 10];
        }
        if (within(what, 20, 20 + CLAUSES - 1)) {
            return treaty.clashes[what - 20];
        }
        if (within(what, 30, 30 + ROCKS - 1)) {
            return lookout.seen[what - 30];
        }
        if (what >= 100) {
            return sea.traitOf((what - 100) / 10, (what - 100) % 10);
        }
        switch (what) {
            case 0:
                return pad.size;
            case 1:
                return sea.there;
            case 2:
                return sea.month;
            case 3:
                return sea.lost;
            case 4:
                return lookout.counts;
            default:
                return OUTSIDE;
        }
    }

    private static boolean within(int value, int least, int most) {
        return value >= least && value <= most;
    }

    private static boolean has(int set, int member) {
        return (set >> member & 1) == 1;
    }

    /** What ACTS change: the HERDS, the month, LOST HEADS. */
    private static final class Sea {
        // Why an ACT can not be, by the document's numbers.
        static final int CAN_BE = 0;
        static final int NO_HERD = 1;
        static final int NOBODY_SIGNS = 2;
        static final int MOOD_IS_MOST = 3;
        static final int TOO_FEW_HEADS = 4;
        static final int ONE_OR_APART = 5;
        static final int NO_MONTH_LEFT = 6;

        static final int NET = 5;

        int there;
        int month;
        int lost;
        final int[] heads = new int[HERDS];
        final int[] sides = new int[HERDS];
        final int[] moods = new int[HERDS];
        final int[] moults = new int[HERDS];

        void copyFrom(Sea from) {
            there = from.there;
            month = from.month;
            lost = from.lost;
            for (int h = 0; h < HERDS; h++) {
                heads[h] = from.heads[h];
                sides[h] = from.sides[h];
                moods[h] = from.moods[h];
                moults[h] = from.moults[h];
            }
        }

        void settle(int herd, int headsNow, int side, int mood, int moultsIn) {
            if (!within(herd, 0, HERDS - 1)) {
                return;
            }
            there |= 1 << herd;
            heads[herd] = headsNow;
            sides[herd] = side;
            moods[herd] = mood;
            moults[herd] = moultsIn;
        }

        boolean isThere(int herd) {
            return herd >= 0 && herd < HERDS && (there >> herd & 1) == 1;
        }

        int traitOf(int herd, int what) {
            if (!isThere(herd)) {
                return OUTSIDE;
            }
            switch (what) {
                case 0:
                    return heads[herd];
                case 1:
                    return sides[herd];
                case 2:
                    return moods[herd];
                case 3:
                    return moults[herd];
                default:
                    return OUTSIDE;
            }
        }

        /** Whether a HERD SIGNS now, if its MOOD is enough. */
        boolean listens(int herd) {
            return isThere(herd) && heads[herd] > 0 && moults[herd] != month % MONTHS;
        }

        int signers(int words) {
            int signing = 0;
            for (int h = 0; h < HERDS; h++) {
                if (listens(h) && moods[h] >= words) {
                    signing |= 1 << h;
                }
            }
            return signing;
        }

        int headsOnSideOne() {
            int sum = 0;
            for (int h = 0; h < HERDS; h++) {
                if (isThere(h) && sides[h] == 1) {
                    sum += heads[h];
                }
            }
            return sum;
        }

        int allMoods() {
            int sum = 0;
            for (int h = 0; h < HERDS; h++) {
                if (isThere(h)) {
                    sum += moods[h];
                }
            }
            return sum;
        }

        boolean hasHeads() {
            for (int h = 0; h < HERDS; h++) {
                if (isThere(h) && heads[h] > 0) {
                    return true;
                }
            }
            return false;
        }

        /** The HERD that gets the next reparation; products, as a quotient that is cut would make false ties. */
        int nextToGet(int[] gotSoFar) {
            int best = NONE;
            int bestHeads = 0;
            int bestDivisor = 1;
            for (int h = 0; h < HERDS && h < gotSoFar.length; h++) {
                int divisor = gotSoFar[h] + 1;
                if (isThere(h) && heads[h] * bestDivisor > bestHeads * divisor) {
                    best = h;
                    bestHeads = heads[h];
                    bestDivisor = divisor;
                }
            }
            return best;
        }

        int headsOf(int set) {
            int sum = 0;
            for (int h = 0; h < HERDS; h++) {
                if (has(set, h) && isThere(h)) {
                    sum += heads[h];
                }
            }
            return sum;
        }

        int whyNot(Act act, Treaty treaty) {
            switch (act.kind) {
                case Act.READ:
                    return signers(treaty.wordsOf(act.one)) == 0 ? NOBODY_SIGNS : CAN_BE;
                case Act.WHISTLE:
                    return whyNoWhistle(act.one);
                case Act.NET:
                    return whyNoNet(act.one);
                case Act.JOIN:
                    return whyNoJoining(act.one, act.other);
                default:
                    return month >= LAST_MONTH ? NO_MONTH_LEFT : CAN_BE;
            }
        }

        private int whyNoWhistle(int herd) {
            if (!isThere(herd)) {
                return NO_HERD;
            }
            return moods[herd] >= MOST_MOOD ? MOOD_IS_MOST : CAN_BE;
        }

        private int whyNoNet(int herd) {
            if (!isThere(herd)) {
                return NO_HERD;
            }
            return heads[herd] < NET ? TOO_FEW_HEADS : CAN_BE;
        }

        private int whyNoJoining(int herd, int joiner) {
            if (!isThere(herd) || !isThere(joiner)) {
                return NO_HERD;
            }
            return herd == joiner || sides[herd] != sides[joiner] ? ONE_OR_APART : CAN_BE;
        }

        /** Only for an ACT that can be. */
        void perform(Act act, Treaty treaty) {
            switch (act.kind) {
                case Act.READ:
                    readAloud(treaty.wordsOf(act.one));
                    break;
                case Act.WHISTLE:
                    cheer(act.one, 3);
                    break;
                case Act.NET:
                    takeNet(act.one);
                    break;
                case Act.JOIN:
                    joinTo(act.one, act.other);
                    break;
                default:
                    passMonth();
                    break;
            }
        }

        private void cheer(int herd, int more) {
            if (isThere(herd)) {
                moods[herd] = Math.min(MOST_MOOD, moods[herd] + more);
            }
        }

        private void readAloud(int words) {
            int signing = signers(words);
            for (int h = 0; h < HERDS; h++) {
                if (has(signing, h)) {
                    sides[h] = 1 - sides[h];
                    moods[h] -= words;
                } else {
                    cheer(h, 1);
                }
            }
        }

        private void takeNet(int herd) {
            if (isThere(herd)) {
                heads[herd] -= NET;
                lost += NET;
            }
        }

        private void joinTo(int herd, int joiner) {
            if (isThere(herd) && isThere(joiner)) {
                heads[herd] = Math.min(MOST_HEADS, heads[herd] + heads[joiner]);
                there &= ~(1 << joiner);
            }
        }

        private void passMonth() {
            for (int h = 0; h < HERDS; h++) {
                cheer(h, 2);
                if (isThere(h) && heads[h] >= 2 && moults[h] != month % MONTHS) {
                    heads[h] = Math.min(MOST_HEADS, heads[h] + 1);
                }
            }
            month++;
        }
    }

    /** CLAUSES: their WORDS, and which CLASH. */
    private static final class Treaty {
        static final int WORDS_AT_FIRST = 3;

        final int[] words = new int[CLAUSES];
        final int[] clashes = new int[CLAUSES];

        Treaty() {
            Arrays.fill(words, WORDS_AT_FIRST);
        }

        void copyFrom(Treaty from) {
            for (int c = 0; c < CLAUSES; c++) {
                words[c] = from.words[c];
                clashes[c] = from.clashes[c];
            }
        }

        int wordsOf(int clause) {
            return within(clause, 0, CLAUSES - 1) ? words[clause] : WORDS_AT_FIRST;
        }

        int wordsOfAll(int set) {
            int sum = 0;
            for (int c = 0; c < CLAUSES; c++) {
                if (has(set, c)) {
                    sum += words[c];
                }
            }
            return sum;
        }

        void setClash(int clause, int with, boolean is) {
            if (!within(clause, 0, CLAUSES - 1)) {
                return;
            }
            if (is) {
                clashes[clause] |= 1 << with;
            } else {
                clashes[clause] &= ~(1 << with);
            }
        }

        /** Each pair stands in the rows of both. */
        int clashingPairs() {
            int bits = 0;
            for (int c = 0; c < CLAUSES; c++) {
                bits += Integer.bitCount(clashes[c]);
            }
            return bits / 2;
        }

        boolean isQuiet(int set) {
            for (int c = 0; c < CLAUSES; c++) {
                if (has(set, c) && (clashes[c] & set) != 0) {
                    return false;
                }
            }
            return true;
        }

        /** Dropping all is always enough, and a rising search with fewer only keeps the least of as few. */
        int leastToDrop(int set) {
            int least = set;
            int fewest = CLAUSES + 1;
            for (int dropped = 0; dropped <= ALL_CLAUSES; dropped++) {
                boolean isPart = (dropped & ~set) == 0;
                if (isPart && Integer.bitCount(dropped) < fewest && isQuiet(set & ~dropped)) {
                    least = dropped;
                    fewest = Integer.bitCount(dropped);
                }
            }
            return least;
        }
    }

    /** ROCKS and COUNTS. */
    private static final class Lookout {
        static final int MOST_COUNTS = 8;

        final int[] seen = new int[ROCKS];
        int counts;
        final int[] countRocks = new int[MOST_COUNTS];
        final int[] countWantings = new int[MOST_COUNTS];

        Lookout() {
            Arrays.fill(seen, ALL_HERDS);
        }

        void copyFrom(Lookout from) {
            for (int r = 0; r < ROCKS; r++) {
                seen[r] = from.seen[r];
            }
            counts = from.counts;
            for (int i = 0; i < MOST_COUNTS; i++) {
                countRocks[i] = from.countRocks[i];
                countWantings[i] = from.countWantings[i];
            }
        }

        boolean addCount(int rock, int wanting) {
            if (counts >= MOST_COUNTS) {
                return false;
            }
            countRocks[counts] = rock;
            countWantings[counts] = wanting;
            counts++;
            return true;
        }

        /** HEADS that are wanting off a ROCK, if a set of HERDS went under. */
        int wantingOff(int rock, int under, Sea sea) {
            return within(rock, 0, ROCKS - 1) ? sea.headsOf(seen[rock] & under) : 0;
        }

        boolean allCountsFit(int under, Sea sea) {
            for (int i = 0; i < counts && i < MOST_COUNTS; i++) {
                if (wantingOff(countRocks[i], under, sea) != countWantings[i]) {
                    return false;
                }
            }
            return true;
        }
    }

    /** Sets of HERDS that can have gone under by all COUNTS, and the ROCK that tells most of them apart. */
    private static final class Guess {
        int size;
        final int[] sets = new int[ALL_HERDS + 1];
        int nextRock;
        int leftAtMost;
        final int[] tally = new int[HERDS * MOST_HEADS + 1];

        void findSets(Lookout lookout, Sea sea) {
            size = 0;
            for (int under = 0; under <= ALL_HERDS; under++) {
                boolean areThere = (under & ~sea.there) == 0;
                if (areThere && size < sets.length && lookout.allCountsFit(under, sea)) {
                    sets[size] = under;
                    size++;
                }
            }
        }

        int setAt(int i) {
            return i >= 0 && i < size && i < sets.length ? sets[i] : NONE;
        }

        void findNextRock(Lookout lookout, Sea sea) {
            nextRock = NONE;
            leftAtMost = NONE;
            for (int r = 0; r < ROCKS; r++) {
                int left = mostAlike(r, lookout, sea);
                if (nextRock == NONE || left < leftAtMost) {
                    nextRock = r;
                    leftAtMost = left;
                }
            }
        }

        /** How many of the sets want as many off a ROCK, at the most. */
        private int mostAlike(int rock, Lookout lookout, Sea sea) {
            Arrays.fill(tally, 0);
            int most = 0;
            for (int i = 0; i < size && i < sets.length; i++) {
                int wanting = lookout.wantingOff(rock, sets[i], sea);
                if (wanting >= 0 && wanting < tally.length) {
                    tally[wanting]++;
                    most = Math.max(most, tally[wanting]);
                }
            }
            return most;
        }
    }

    /** The text of SEASONS. */
    private static final class Pad {
        static final int MOST_SIGNS = 60;
        static final int FIRST_SIGN = 33;
        static final int LAST_SIGN = 126;

        // What the next sign has to be.
        private static final int AN_ACT = 0;
        private static final int A_DEED = 1;
        private static final int A_JOINER = 2;
        private static final int BROKEN = 3;

        final int[] signs = new int[MOST_SIGNS];
        int size;

        boolean write(int sign) {
            if (size >= MOST_SIGNS) {
                return false;
            }
            signs[size] = sign;
            size++;
            return true;
        }

        int signAt(int place) {
            return place >= 0 && place < size && place < MOST_SIGNS ? signs[place] : 0;
        }

        int faultPlace() {
            int awaited = AN_ACT;
            for (int i = 0; i < size && i < MOST_SIGNS; i++) {
                awaited = awaitedBehind(awaited, signs[i]);
                if (awaited == BROKEN) {
                    return i;
                }
            }
            return awaited == AN_ACT ? NONE : size;
        }

        private static int awaitedBehind(int awaited, int sign) {
            if (awaited == AN_ACT) {
                if (isHerd(sign)) {
                    return A_DEED;
                }
                return isClause(sign) || sign == '.' ? AN_ACT : BROKEN;
            }
            if (awaited == A_DEED) {
                if (sign == '&') {
                    return A_JOINER;
                }
                return sign == '?' || sign == '!' ? AN_ACT : BROKEN;
            }
            return isHerd(sign) ? AN_ACT : BROKEN;
        }

        static boolean isHerd(int sign) {
            return within(sign, 'A', 'A' + HERDS - 1);
        }

        static boolean isClause(int sign) {
            return within(sign, 'a', 'a' + CLAUSES - 1);
        }
    }

    /** One ACT, off the PAD or drawn. */
    private static final class Act {
        static final int READ = 0;
        static final int WHISTLE = 1;
        static final int NET = 2;
        static final int JOIN = 3;
        static final int MONTH = 4;

        int kind;
        int one;
        int other;

        private void set(int newKind, int newOne, int newOther) {
            kind = newKind;
            one = newOne;
            other = newOther;
        }

        /** How many signs the ACT at a place of a PAD without FAULT has. */
        int takeFrom(Pad pad, int place) {
            int sign = pad.signAt(place);
            if (!Pad.isHerd(sign)) {
                set(sign == '.' ? MONTH : READ, sign - 'a', 0);
                return 1;
            }
            int deed = pad.signAt(place + 1);
            if (deed == '&') {
                set(JOIN, sign - 'A', pad.signAt(place + 2) - 'A');
                return 3;
            }
            set(deed == '?' ? WHISTLE : NET, sign - 'A', 0);
            return 2;
        }

        void draw(int x) {
            int y = x / 8;
            switch (x % 8) {
                case 4:
                    set(WHISTLE, y % HERDS, 0);
                    break;
                case 5:
                    set(NET, y % HERDS, 0);
                    break;
                case 6:
                    set(JOIN, y % HERDS, y / HERDS % HERDS);
                    break;
                case 7:
                    set(MONTH, 0, 0);
                    break;
                default:
                    set(READ, y % CLAUSES, 0);
                    break;
            }
        }
    }

    /** ACTS on a copy of the sea, so that nothing is DONE in fact. */
    private static final class Trial {
        final Sea sea = new Sea();
        final Act act = new Act();
        boolean isFaulty;
        int acts;
        int why;
        int readings;
        int signedAll;

        /** Stops at the first ACT that can not be: acts is its place then. */
        void run(Pad pad, Sea from, Treaty treaty) {
            begin(pad, from);
            int place = 0;
            for (int i = 0; i < Pad.MOST_SIGNS && place < pad.size && !isFaulty; i++) {
                place += act.takeFrom(pad, place);
                why = sea.whyNot(act, treaty);
                if (why != Sea.CAN_BE) {
                    return;
                }
                noteReading(treaty);
                sea.perform(act, treaty);
                acts++;
            }
        }

        private void begin(Pad pad, Sea from) {
            sea.copyFrom(from);
            isFaulty = pad.faultPlace() != NONE;
            acts = 0;
            why = Sea.CAN_BE;
            readings = 0;
            signedAll = from.there;
        }

        boolean allCanBe() {
            return !isFaulty && why == Sea.CAN_BE;
        }

        private void noteReading(Treaty treaty) {
            if (act.kind == Act.READ) {
                readings++;
                signedAll &= sea.signers(treaty.wordsOf(act.one));
            }
        }

        void runYear(int seed, int m, Sea from, Treaty treaty) {
            sea.copyFrom(from);
            int x = seed;
            for (int i = 0; i < m; i++) {
                x = (75 * x + 74) % 65537;
                act.draw(x);
                if (sea.whyNot(act, treaty) == Sea.CAN_BE) {
                    sea.perform(act, treaty);
                }
            }
        }
    }

    /**
     * A search in breadth over the SIDES and MOODS of two HERDS. Others do not matter, as no HERD changes by what
     * another one SIGNS. States wait in the order of their first CLAUSE, so the first that fits has the least one.
     */
    private static final class Bringing {
        static final int MOODS = MOST_MOOD + 1;
        static final int PLACES = 2 * MOODS;
        static final int STATES = PLACES * PLACES;

        final int[] steps = new int[STATES];
        final int[] firsts = new int[STATES];
        final int[] queue = new int[STATES];
        int size;
        boolean oneListens;
        boolean otherListens;
        int fewest;
        int firstClause;

        void begin(Sea sea, int one, int other) {
            Arrays.fill(steps, NONE);
            size = 0;
            oneListens = sea.listens(one);
            otherListens = sea.listens(other);
            reach(placeOf(sea, one) * PLACES + placeOf(sea, other), 0, NONE);
        }

        void search(Treaty treaty, int sideOne, int sideOther) {
            fewest = NONE;
            firstClause = NONE;
            for (int i = 0; i < size && i < STATES; i++) {
                int state = queue[i];
                if (!within(state, 0, STATES - 1)) {
                    return;
                }
                if (state / PLACES / MOODS == sideOne && state % PLACES / MOODS == sideOther) {
                    fewest = steps[state];
                    firstClause = firsts[state];
                    return;
                }
                goOnFrom(state, steps[state] + 1, firsts[state], treaty);
            }
        }

        private void goOnFrom(int state, int step, int first, Treaty treaty) {
            for (int c = 0; c < CLAUSES; c++) {
                int words = treaty.wordsOf(c);
                int one = behindReading(state / PLACES, words, oneListens);
                int other = behindReading(state % PLACES, words, otherListens);
                reach(one * PLACES + other, step, first == NONE ? c : first);
            }
        }

        private void reach(int state, int step, int first) {
            if (!within(state, 0, STATES - 1) || size >= STATES || steps[state] != NONE) {
                return;
            }
            steps[state] = step;
            firsts[state] = first;
            queue[size] = state;
            size++;
        }

        private static int placeOf(Sea sea, int herd) {
            return sea.isThere(herd) ? sea.sides[herd] * MOODS + sea.moods[herd] : 0;
        }

        private static int behindReading(int place, int words, boolean listens) {
            int side = place / MOODS;
            int mood = place % MOODS;
            if (listens && mood >= words) {
                return (1 - side) * MOODS + mood - words;
            }
            return side * MOODS + Math.min(MOST_MOOD, mood + 1);
        }
    }

    /** CLAUSES by turns: by which CLAUSES are read already, whether who is next can win. */
    private static final class Game {
        final boolean[] wins = new boolean[ALL_CLAUSES + 1];

        /** From all CLAUSES read down to none, as what comes next always has one read more. */
        int winningFirst(Treaty treaty, int m) {
            int first = NONE;
            for (int read = ALL_CLAUSES; read >= 0; read--) {
                first = winningNext(read, m - treaty.wordsOfAll(read), treaty);
                wins[read] = first != NONE;
            }
            return first;
        }

        private int winningNext(int read, int left, Treaty treaty) {
            for (int c = 0; c < CLAUSES; c++) {
                int next = read | 1 << c;
                if (next != read && next < wins.length && treaty.wordsOf(c) <= left && !wins[next]) {
                    return c;
                }
            }
            return NONE;
        }
    }

    /** An exact number; the bounds of the calls keep both its parts below 2 times 10 to the 18. */
    private static final class Fraction {
        // Far more steps than two longs can need.
        private static final int MOST_STEPS = 1000;

        long upper;
        long lower = 1;

        /** The mean of the MOOD with so many months to come; 0 with none, as no MOOD is below that. */
        void setWaiting(int months, int m) {
            upper = 0;
            lower = 1;
            for (int i = 0; i < months; i++) {
                long sum = 0;
                for (int mood = 0; mood <= m; mood++) {
                    sum += Math.max(mood * lower, upper);
                }
                upper = sum;
                lower *= m + 1;
            }
            reduce();
        }

        void setDrift(int side, int a, int b, int n, int what) {
            long onSideOne = side;
            long sum = 0;
            lower = 1;
            for (int i = 0; i < n; i++) {
                onSideOne = onSideOne * (10 - b) + (lower - onSideOne) * a;
                sum = sum * 10 + onSideOne;
                lower *= 10;
            }
            upper = what == 0 ? onSideOne : sum;
            reduce();
        }

        int leastWholeNotBelow(int most) {
            for (int whole = 0; whole < most; whole++) {
                if (whole * lower >= upper) {
                    return whole;
                }
            }
            return most;
        }

        long part(int part) {
            return part == 0 ? upper : lower;
        }

        private void reduce() {
            long divisor = commonDivisor(upper, lower);
            if (divisor > 1) {
                upper /= divisor;
                lower /= divisor;
            }
        }

        private static long commonDivisor(long a, long b) {
            long greater = a;
            long less = b;
            for (int i = 0; i < MOST_STEPS && less != 0; i++) {
                long rest = greater % less;
                greater = less;
                less = rest;
            }
            return greater;
        }
    }

    /** All but the PAD. */
    private static final class Image {
        final Sea sea = new Sea();
        final Treaty treaty = new Treaty();
        final Lookout lookout = new Lookout();
    }
}
