import java.math.BigInteger;
import java.util.ArrayList;
import java.util.HashMap;
import java.util.HashSet;
import java.util.List;
import java.util.Map;
import java.util.Set;
import java.util.TreeMap;
import java.util.TreeSet;

/** The document once more, by other ways than the class goes, and with the Java library at hand. */
final class Model {
    private static final int NONE = -6, UNKNOWN = -1, OUTSIDE = -2, STATE = -3, FULL = -4, NO = -5;
    private static final long LOST_OUTSIDE = -1000000000000000002L;
    private static final String TEXT = "([a-j.]|[A-F]([?!]|&[A-F]))*";

    private record Herd(int heads, int side, int mood, int moults) {
        Herd cheered(int more) {
            return new Herd(heads, side, Math.min(9, mood + more), moults);
        }

        boolean signs(int words, int month) {
            return heads > 0 && mood >= words && moults != month % 12;
        }

        Herd behind(int words, int month) {
            return signs(words, month) ? new Herd(heads, 1 - side, mood - words, moults) : cheered(1);
        }
    }

    private static final class All {
        TreeMap<Integer, Herd> herds = new TreeMap<>();
        int[] words = {3, 3, 3, 3, 3, 3, 3, 3, 3, 3};
        Set<Set<Integer>> clashes = new HashSet<>();
        int[] rocks = {63, 63, 63, 63, 63, 63};
        List<int[]> counts = new ArrayList<>();
        int month = 0;
        int lost = 0;

        All copy() {
            All copy = new All();
            copy.herds = new TreeMap<>(herds);
            copy.words = words.clone();
            copy.clashes = new HashSet<>(clashes);
            copy.rocks = rocks.clone();
            copy.counts = new ArrayList<>(counts);
            copy.month = month;
            copy.lost = lost;
            return copy;
        }
    }

    private All now = new All();
    private final All[] images = new All[2];
    private String pad = "";

    private static boolean in(int value, int least, int most) {
        return least <= value && value <= most;
    }

    private static int bits(Iterable<Integer> members) {
        int bits = 0;
        for (int member : members) {
            bits += 1 << member;
        }
        return bits;
    }

    int herd(int herd, int heads, int side, int mood, int moults) {
        if (!in(herd, 0, 5)) return UNKNOWN;
        if (!in(heads, 0, 99) || !in(side, 0, 1) || !in(mood, 0, 9) || !in(moults, 0, 11)) return OUTSIDE;
        now.herds.put(herd, new Herd(heads, side, mood, moults));
        return now.herds.size();
    }

    int clause(int clause, int words) {
        if (!in(clause, 0, 9)) return UNKNOWN;
        if (!in(words, 1, 9)) return OUTSIDE;
        int had = now.words[clause];
        now.words[clause] = words;
        return had;
    }

    int clash(int a, int b, boolean is) {
        if (!in(a, 0, 9) || !in(b, 0, 9) || a == b) return UNKNOWN;
        if (is) now.clashes.add(Set.of(a, b));
        else now.clashes.remove(Set.of(a, b));
        return now.clashes.size();
    }

    int rock(int rock, int herds) {
        if (!in(rock, 0, 5)) return UNKNOWN;
        if (!in(herds, 0, 63)) return OUTSIDE;
        int were = now.rocks[rock];
        now.rocks[rock] = herds;
        return were;
    }

    int say(int sign) {
        if (!in(sign, 33, 126)) return OUTSIDE;
        if (pad.length() == 60) return FULL;
        pad += (char) sign;
        return pad.length();
    }

    int wipe() {
        int were = pad.length();
        pad = "";
        return were;
    }

    /** A beginning can stand if nothing, a whistle, or a HERD behind it makes it a text. */
    private static boolean canStand(String beginning) {
        return beginning.matches(TEXT) || (beginning + "?").matches(TEXT) || (beginning + "A").matches(TEXT);
    }

    int fault() {
        for (int i = 0; i < pad.length(); i++) {
            if (!canStand(pad.substring(0, i + 1))) return i;
        }
        return pad.matches(TEXT) ? NONE : pad.length();
    }

    private List<String> acts() {
        List<String> acts = new ArrayList<>();
        for (String act : pad.split("(?=[a-j.])|(?<=[a-j.?!])|(?<=&[A-F])")) {
            if (!act.isEmpty()) acts.add(act);
        }
        return acts;
    }

    private static Set<Integer> signers(All all, int words) {
        Set<Integer> signers = new TreeSet<>();
        all.herds.forEach((h, herd) -> {
            if (herd.signs(words, all.month)) signers.add(h);
        });
        return signers;
    }

    private static int why(All all, String act) {
        char first = act.charAt(0);
        if (first == '.') return all.month == 999 ? 6 : 0;
        if (first >= 'a') return signers(all, all.words[first - 'a']).isEmpty() ? 2 : 0;
        Herd herd = all.herds.get(first - 'A');
        if (herd == null) return 1;
        if (act.charAt(1) == '?') return herd.mood == 9 ? 3 : 0;
        if (act.charAt(1) == '!') return herd.heads < 5 ? 4 : 0;
        Herd other = all.herds.get(act.charAt(2) - 'A');
        if (other == null) return 1;
        return act.charAt(2) == first || herd.side != other.side ? 5 : 0;
    }

    private static void act(All all, String act) {
        char first = act.charAt(0);
        if (first == '.') {
            all.herds.replaceAll((h, herd) -> {
                int more = herd.heads >= 2 && herd.moults != all.month % 12 ? 1 : 0;
                return new Herd(Math.min(99, herd.heads + more), herd.side, Math.min(9, herd.mood + 2), herd.moults);
            });
            all.month++;
            return;
        }
        if (first >= 'a') {
            all.herds.replaceAll((h, herd) -> herd.behind(all.words[first - 'a'], all.month));
            return;
        }
        Herd herd = all.herds.get(first - 'A');
        if (act.charAt(1) == '?') {
            all.herds.put(first - 'A', herd.cheered(3));
        } else if (act.charAt(1) == '!') {
            all.herds.put(first - 'A', new Herd(herd.heads - 5, herd.side, herd.mood, herd.moults));
            all.lost += 5;
        } else {
            Herd other = all.herds.remove(act.charAt(2) - 'A');
            int heads = Math.min(99, herd.heads + other.heads);
            all.herds.put(first - 'A', new Herd(heads, herd.side, herd.mood, herd.moults));
        }
    }

    int judge(int what) {
        if (!in(what, 0, 1)) return OUTSIDE;
        if (fault() != NONE) return NO;
        All all = now.copy();
        List<String> acts = acts();
        for (int i = 0; i < acts.size(); i++) {
            int why = why(all, acts.get(i));
            if (why != 0) return what == 0 ? i : why;
            act(all, acts.get(i));
        }
        return NONE;
    }

    /** Null: there is a FAULT, or an ACT that can not be. */
    private All behindAll() {
        if (judge(0) != NONE) return null;
        All all = now.copy();
        for (String act : acts()) {
            act(all, act);
        }
        return all;
    }

    int done() {
        All all = behindAll();
        if (all == null) return NO;
        int acts = acts().size();
        now = all;
        pad = "";
        return acts;
    }

    int behind(int herd, int what) {
        if (!now.herds.containsKey(herd)) return UNKNOWN;
        if (!in(what, 0, 2)) return OUTSIDE;
        All all = behindAll();
        if (all == null) return NO;
        Herd there = all.herds.get(herd);
        if (there == null) return NONE;
        return what == 0 ? there.heads : what == 1 ? there.side : there.mood;
    }

    private static int headsOnOne(All all) {
        return all.herds.values().stream().filter(h -> h.side == 1).mapToInt(h -> h.heads).sum();
    }

    int then(int what) {
        if (!in(what, 0, 4)) return OUTSIDE;
        All behind = behindAll();
        if (behind == null) return NO;
        if (what == 0) return headsOnOne(behind);
        if (what == 1) return behind.lost;
        if (what == 2) return behind.month;
        int read = 0;
        Set<Integer> signedAll = new TreeSet<>(now.herds.keySet());
        All all = now.copy();
        for (String act : acts()) {
            if (in(act.charAt(0), 'a', 'j')) {
                read++;
                signedAll.retainAll(signers(all, all.words[act.charAt(0) - 'a']));
            }
            act(all, act);
        }
        return what == 3 ? read : bits(signedAll);
    }

    int who(int clause) {
        if (!in(clause, 0, 9)) return UNKNOWN;
        return bits(signers(now, now.words[clause]));
    }

    /** The fewest from two HERDS on: sets of pairs, a reading deeper each round, till nothing new comes. */
    private int fewest(Herd one, int sideOne, Herd other, int sideOther) {
        Set<List<Herd>> known = new HashSet<>();
        Set<List<Herd>> last = Set.of(List.of(one, other));
        for (int depth = 0; !last.isEmpty(); depth++) {
            Set<List<Herd>> next = new HashSet<>();
            for (List<Herd> pair : last) {
                if (pair.get(0).side == sideOne && pair.get(1).side == sideOther) return depth;
                known.add(pair);
                for (int words : now.words) {
                    next.add(List.of(pair.get(0).behind(words, now.month), pair.get(1).behind(words, now.month)));
                }
            }
            next.removeAll(known);
            last = next;
        }
        return NONE;
    }

    int bring(int one, int sideOne, int other, int sideOther, int what) {
        Herd a = now.herds.get(one);
        Herd b = now.herds.get(other);
        if (a == null || b == null || one == other) return UNKNOWN;
        if (!in(sideOne, 0, 1) || !in(sideOther, 0, 1) || !in(what, 0, 1)) return OUTSIDE;
        int fewest = fewest(a, sideOne, b, sideOther);
        if (what == 0) return fewest;
        if (fewest <= 0) return NONE;
        for (int c = 0; c < 10; c++) {
            int words = now.words[c];
            if (fewest(a.behind(words, now.month), sideOne, b.behind(words, now.month), sideOther) == fewest - 1) {
                return c;
            }
        }
        throw new IllegalStateException("no first clause");
    }

    int drop(int set, int what) {
        if (!in(set, 0, 1023) || !in(what, 0, 1)) return OUTSIDE;
        for (int many = 0; many <= 10; many++) {
            for (int dropped = 0; dropped < 1024; dropped++) {
                if (Integer.bitCount(dropped) != many || (dropped & set) != dropped) continue;
                int left = set - dropped;
                boolean quiet = now.clashes.stream().noneMatch(pair -> (bits(pair) & left) == bits(pair));
                if (quiet) return what == 0 ? many : dropped;
            }
        }
        throw new IllegalStateException("nothing to drop");
    }

    /** The r greatest of all quotients, of equals the first HERD's. */
    int share(int herd, int r) {
        if (!now.herds.containsKey(herd)) return UNKNOWN;
        if (!in(r, 0, 99)) return OUTSIDE;
        List<int[]> quotients = new ArrayList<>();
        now.herds.forEach((h, there) -> {
            for (int k = 1; k <= 99 && there.heads > 0; k++) quotients.add(new int[] {there.heads, k, h});
        });
        if (quotients.isEmpty()) return NONE;
        quotients.sort((p, q) -> p[0] * q[1] != q[0] * p[1]
                ? Integer.compare(q[0] * p[1], p[0] * q[1]) : Integer.compare(p[2], q[2]));
        return (int) quotients.subList(0, r).stream().filter(q -> q[2] == herd).count();
    }

    private record Ratio(BigInteger upper, BigInteger lower) {
        static Ratio of(long upper, long lower) {
            return new Ratio(BigInteger.valueOf(upper), BigInteger.valueOf(lower));
        }

        Ratio plus(Ratio o) {
            return new Ratio(upper.multiply(o.lower).add(o.upper.multiply(lower)), lower.multiply(o.lower)).lowest();
        }

        Ratio times(Ratio o) {
            return new Ratio(upper.multiply(o.upper), lower.multiply(o.lower)).lowest();
        }

        boolean isBelow(Ratio o) {
            return upper.multiply(o.lower).compareTo(o.upper.multiply(lower)) < 0;
        }

        Ratio lowest() {
            BigInteger divisor = upper.gcd(lower);
            return new Ratio(upper.divide(divisor), lower.divide(divisor));
        }

        long part(int part) {
            return (part == 0 ? upper : lower).longValueExact();
        }
    }

    private static Ratio mean(int n, int m) {
        Ratio sum = Ratio.of(0, 1);
        Ratio later = n == 1 ? Ratio.of(0, 1) : mean(n - 1, m);
        for (int mood = 0; mood <= m; mood++) {
            Ratio read = Ratio.of(mood, 1);
            sum = sum.plus(n > 1 && read.isBelow(later) ? later : read);
        }
        return sum.times(Ratio.of(1, m + 1));
    }

    long waiting(int n, int m, int part) {
        if (!in(n, 1, 12) || !in(m, 1, 9) || !in(part, 0, 1)) return LOST_OUTSIDE;
        return mean(n, m).part(part);
    }

    int reads(int n, int m) {
        if (!in(n, 1, 12) || !in(m, 1, 9)) return OUTSIDE;
        int mood = 0;
        while (n > 1 && Ratio.of(mood, 1).isBelow(mean(n - 1, m))) mood++;
        return mood;
    }

    int counted(int rock, int wanting) {
        if (!in(rock, 0, 5)) return UNKNOWN;
        if (!in(wanting, 0, 999)) return OUTSIDE;
        if (now.counts.size() == 8) return FULL;
        now.counts.add(new int[] {rock, wanting});
        return now.counts.size();
    }

    int forget() {
        int were = now.counts.size();
        now.counts.clear();
        return were;
    }

    private int wanting(int rock, int set) {
        int sum = 0;
        for (Map.Entry<Integer, Herd> e : now.herds.entrySet()) {
            if ((set & now.rocks[rock] & 1 << e.getKey()) != 0) sum += e.getValue().heads;
        }
        return sum;
    }

    private List<Integer> wentSets() {
        List<Integer> sets = new ArrayList<>();
        for (int set = 0; set < 64; set++) {
            int under = set;
            if ((under & bits(now.herds.keySet())) == under
                    && now.counts.stream().allMatch(count -> wanting(count[0], under) == count[1])) {
                sets.add(set);
            }
        }
        return sets;
    }

    int went(int i) {
        List<Integer> sets = wentSets();
        return i == -1 ? sets.size() : in(i, 0, sets.size() - 1) ? sets.get(i) : NONE;
    }

    int ask(int what) {
        if (!in(what, 0, 1)) return OUTSIDE;
        List<Integer> sets = wentSets();
        int best = NONE;
        int fewest = NONE;
        for (int rock = 0; rock < 6 && !sets.isEmpty(); rock++) {
            Map<Integer, Integer> left = new HashMap<>();
            for (int set : sets) left.merge(wanting(rock, set), 1, Integer::sum);
            int most = left.values().stream().mapToInt(v -> v).max().getAsInt();
            if (best == NONE || most < fewest) {
                best = rock;
                fewest = most;
            }
        }
        return what == 0 ? best : fewest;
    }

    private boolean canWin(List<Integer> unread, int mood, Map<List<Integer>, Boolean> known) {
        Boolean before = known.get(unread);
        if (before != null) return before;
        boolean wins = false;
        for (Integer clause : unread) {
            if (now.words[clause] > mood) continue;
            List<Integer> rest = new ArrayList<>(unread);
            rest.remove(clause);
            wins |= !canWin(rest, mood - now.words[clause], known);
        }
        known.put(unread, wins);
        return wins;
    }

    int turning(int m, int what) {
        if (!in(m, 0, 30) || !in(what, 0, 1)) return OUTSIDE;
        Map<List<Integer>, Boolean> known = new HashMap<>();
        List<Integer> all = List.of(0, 1, 2, 3, 4, 5, 6, 7, 8, 9);
        if (what == 0) return canWin(all, m, known) ? 1 : 0;
        for (Integer clause : all) {
            List<Integer> rest = new ArrayList<>(all);
            rest.remove(clause);
            if (now.words[clause] <= m && !canWin(rest, m - now.words[clause], known)) return clause;
        }
        return NONE;
    }

    /** That it is on SIDE 1 behind n months, by the month that comes first. */
    private static Ratio onOne(int side, int a, int b, int n) {
        Ratio[] now = {Ratio.of(0, 1), Ratio.of(1, 1)};
        for (int i = 0; i < n; i++) {
            Ratio fromZero = now[1].times(Ratio.of(a, 10)).plus(now[0].times(Ratio.of(10 - a, 10)));
            Ratio fromOne = now[0].times(Ratio.of(b, 10)).plus(now[1].times(Ratio.of(10 - b, 10)));
            now = new Ratio[] {fromZero, fromOne};
        }
        return now[side];
    }

    long drift(int side, int a, int b, int n, int what, int part) {
        if (!in(side, 0, 1) || !in(a, 0, 10) || !in(b, 0, 10) || !in(what, 0, 1) || !in(part, 0, 1)
                || !in(n, 0, 17 - what)) {
            return LOST_OUTSIDE;
        }
        if (what == 0) return onOne(side, a, b, n).part(part);
        Ratio sum = Ratio.of(0, 1);
        for (int i = 1; i <= n; i++) sum = sum.plus(onOne(side, a, b, i));
        return sum.part(part);
    }

    int year(int seed, int m, int what) {
        if (!in(seed, 0, 9999) || !in(m, 1, 99) || !in(what, 0, 2)) return OUTSIDE;
        All all = now.copy();
        int x = seed;
        for (int i = 0; i < m; i++) {
            x = (75 * x + 74) % 65537;
            int y = x / 8;
            String herd = "" + (char) ('A' + y % 6);
            String act = switch (x % 8) {
                case 0, 1, 2, 3 -> "" + (char) ('a' + y % 10);
                case 4 -> herd + "?";
                case 5 -> herd + "!";
                case 6 -> herd + "&" + (char) ('A' + y / 6 % 6);
                default -> ".";
            };
            if (why(all, act) == 0) act(all, act);
        }
        return what == 0 ? headsOnOne(all) : what == 1 ? all.lost
                : all.herds.values().stream().mapToInt(h -> h.mood).sum();
    }

    int image(int n) {
        if (!in(n, 0, 1)) return OUTSIDE;
        images[n] = now.copy();
        return 1;
    }

    int restore(int n) {
        if (!in(n, 0, 1)) return OUTSIDE;
        if (images[n] == null) return STATE;
        now = images[n].copy();
        return 1;
    }

    int told(int what) {
        if (what == 0) return pad.length();
        if (what == 1) return bits(now.herds.keySet());
        if (what == 2) return now.month;
        if (what == 3) return now.lost;
        if (what == 4) return now.counts.size();
        if (in(what, 10, 19)) return now.words[what - 10];
        if (in(what, 20, 29)) {
            int with = 0;
            for (int c = 0; c < 10; c++) {
                if (c != what - 20 && now.clashes.contains(Set.of(c, what - 20))) with |= 1 << c;
            }
            return with;
        }
        if (in(what, 30, 35)) return now.rocks[what - 30];
        if (what < 100 || what > 159 || what % 10 > 3 || !now.herds.containsKey(what / 10 - 10)) return OUTSIDE;
        Herd herd = now.herds.get(what / 10 - 10);
        return new int[] {herd.heads, herd.side, herd.mood, herd.moults}[what % 10];
    }
}
