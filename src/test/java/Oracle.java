import java.util.ArrayList;
import java.util.HashMap;
import java.util.HashSet;
import java.util.List;
import java.util.Map;
import java.util.Set;
import java.util.TreeSet;
import java.util.regex.Matcher;
import java.util.regex.Pattern;

/**
 * The document once more, written as slowly and as near to its words as can be: every number from 0 to 999 is
 * tried, every run is built, the kinds of MEANINGS are Java classes under one another.
 */
final class Oracle {
    private static final long FAR = -2_000_000_000L;

    static final class Refused extends RuntimeException {
        private static final long serialVersionUID = 1L;
        final int why;

        Refused(int why) {
            super(null, null, false, false);
            this.why = why;
        }
    }

    static final class T {
        List<int[]> items = new ArrayList<>();
        int wish;
        int lean;
        int words = 12;
        boolean squares = true;
        int[] second;

        T copied() {
            T c = new T();
            for (int[] item : items) {
                c.items.add(item.clone());
            }
            c.wish = wish;
            c.lean = lean;
            c.words = words;
            c.squares = squares;
            c.second = second == null ? null : second.clone();
            return c;
        }

        int n() {
            return items.size();
        }

        int x(int t) {
            return items.get(t)[0];
        }

        int chance(int t) {
            return items.get(t)[1];
        }

        long loss(long d) {
            return squares ? d * d : Math.abs(d);
        }
    }

    static final class M {
        int kind;
        int talk;
        int[] words;
        int clear;
        int[] told = new int[12];

        M copied() {
            M c = new M();
            c.kind = kind;
            c.talk = talk;
            c.words = words.clone();
            c.clear = clear;
            c.told = told.clone();
            return c;
        }
    }

    static final class R {
        int sort;
        long[] e;
    }

    /** A MEANING with who hears it and how he takes it. */
    static final class Sense {
        T talk;
        int lean;
        int wish;
        int[] words;
        Integer clear;
        Map<Integer, Integer> acts = new HashMap<>();

        Sense(T talk, int[] words, Integer clear, int lean, int wish) {
            this.talk = talk;
            this.words = words;
            this.clear = clear;
            this.lean = lean;
            this.wish = wish;
            for (int w : used()) {
                acts.put(w, doneAt(w));
            }
        }

        TreeSet<Integer> used() {
            TreeSet<Integer> used = new TreeSet<>();
            for (int w : words) {
                used.add(w);
            }
            return used;
        }

        long weight(int t, int w) {
            if (clear == null) {
                return words[t] == w ? talk.chance(t) : 0;
            }
            long own = words[t] == w ? (long) clear * used().size() : 0;
            return talk.chance(t) * (own + 100 - clear);
        }

        long heard(int w, int act) {
            long sum = 0;
            for (int t = 0; t < talk.n(); t++) {
                sum += weight(t, w) * talk.loss(act - (talk.x(t) + lean));
            }
            return sum;
        }

        int doneAt(int w) {
            long[] weights = new long[talk.n()];
            for (int t = 0; t < talk.n(); t++) {
                weights[t] = weight(t, w);
            }
            return doneBy(talk, weights, lean);
        }

        long lossOf(int t, int w, int shift) {
            long own = talk.loss(acts.get(w) - (talk.x(t) + shift));
            if (clear == null) {
                return own;
            }
            long all = 0;
            for (int other : used()) {
                all += talk.loss(acts.get(other) - (talk.x(t) + shift));
            }
            return (long) clear * used().size() * own + (100 - clear) * all;
        }

        long regret(int t, int w) {
            return lossOf(t, w, wish);
        }

        int fails() {
            for (int t = 0; t < talk.n(); t++) {
                for (int w : used()) {
                    if (regret(t, w) < regret(t, words[t])) {
                        return 100 * t + w;
                    }
                }
            }
            return -1;
        }

        long worth(int what) {
            long sum = 0;
            for (int t = 0; t < talk.n(); t++) {
                sum += talk.chance(t) * lossOf(t, words[t], what == 0 ? lean : wish);
            }
            return sum;
        }
    }

    static int doneBy(T talk, long[] weights, int lean) {
        int best = 0;
        long least = Long.MAX_VALUE;
        for (int a = 0; a <= 999; a++) {
            long sum = 0;
            for (int t = 0; t < talk.n(); t++) {
                sum += weights[t] == 0 ? 0 : weights[t] * talk.loss(a - (talk.x(t) + lean));
            }
            if (sum < least) {
                least = sum;
                best = a;
            }
        }
        return best;
    }

    private List<T> talks = new ArrayList<>();
    private List<M> meanings = new ArrayList<>();
    private List<T> keptTalks;
    private List<M> keptMeanings;
    private final Object[] shelves = new Object[8];
    private final int[] refusals = new int[8];
    private int fault = -1;
    private List<Integer> traced = new ArrayList<>();

    /** What a call answers that is refused, counted. */
    long refused(Refused r, long base) {
        refusals[r.why]++;
        return base - r.why;
    }

    private static void refuseIf(boolean so, int why) {
        if (so) {
            throw new Refused(why);
        }
    }

    private static boolean in(int v, int low, int high) {
        return v >= low && v <= high;
    }

    private T talkOr(int talk, int why) {
        refuseIf(!in(talk, 0, talks.size() - 1), why);
        return talks.get(talk);
    }

    private M meaningOr(int m, int why) {
        refuseIf(!in(m, 0, meanings.size() - 1), why);
        return meanings.get(m);
    }

    private R rowOf(int s) {
        refuseIf(!in(s, 0, 7), 1);
        refuseIf(shelves[s] instanceof Integer, 2);
        refuseIf(shelves[s] == null, 3);
        return (R) shelves[s];
    }

    private Sense sense(M m) {
        T talk = talks.get(m.talk);
        Sense sense = new Sense(talk, m.words, m.kind == 2 ? m.clear : null, talk.lean, talk.wish);
        if (m.kind == 5) {
            for (int w : sense.used()) {
                sense.acts.put(w, m.told[w]);
            }
        }
        return sense;
    }

    // ---- the calls ----

    long row(int s, int sort, int n) {
        refuseIf(!in(s, 0, 7), 1);
        refuseIf(n < 0, 4);
        refuseIf(!in(sort, 0, 3), 6);
        refuseIf(n > 64, 7);
        R r = new R();
        r.sort = sort;
        r.e = new long[n];
        shelves[s] = r;
        return 1;
    }

    long set(int s, int i, long v) {
        R r = rowOf(s);
        refuseIf(!in(i, 0, r.e.length - 1), 5);
        r.e[i] = r.sort == 0 ? (byte) v : r.sort == 1 ? (short) v : r.sort == 2 ? (int) v : v;
        return 1;
    }

    long copy(int p, int q, int i, int j, int n) {
        refuseIf(!in(p, 0, 7) || !in(q, 0, 7), 1);
        Object a = shelves[p];
        Object b = shelves[q];
        refuseIf(a instanceof Integer || b instanceof Integer, 2);
        refuseIf(a != null && b != null && ((R) a).sort != ((R) b).sort, 2);
        refuseIf(a == null || b == null, 3);
        refuseIf(n < 0, 4);
        R from = (R) a;
        R to = (R) b;
        refuseIf(i < 0 || j < 0 || (long) i + n > from.e.length || (long) j + n > to.e.length, 5);
        long[] ahead = from.e.clone();
        for (int k = 0; k < n; k++) {
            to.e[j + k] = ahead[i + k];
        }
        return 1;
    }

    long element(int s, int i) {
        boolean there = in(s, 0, 7) && shelves[s] instanceof R && in(i, 0, ((R) shelves[s]).e.length - 1);
        return there ? ((R) shelves[s]).e[i] : 0;
    }

    long show(int s, int meaning) {
        refuseIf(!in(s, 0, 7), 1);
        refuseIf(!in(meaning, -1, meanings.size() - 1), 1);
        shelves[s] = meaning == -1 ? null : (Object) meaning;
        return meaning == -1 ? 0 : 1;
    }

    long holds(int s) {
        if (!in(s, 0, 7) || shelves[s] == null) {
            return -1;
        }
        return shelves[s] instanceof Integer ? (Integer) shelves[s] : 100 + ((R) shelves[s]).sort;
    }

    long says(int s, int kind) {
        refuseIf(!in(s, 0, 7) || !in(kind, 0, 5), 1);
        refuseIf(shelves[s] instanceof R, 2);
        refuseIf(shelves[s] == null, 3);
        M m = meanings.get((Integer) shelves[s]);
        int[] above = {-1, 0, 0, 1, 1, 0};
        boolean under = false;
        for (int k = m.kind; k >= 0; k = above[k]) {
            under |= k == kind;
        }
        refuseIf(!under, 2);
        return kind == 0 ? m.talk : kind == 2 ? m.clear : kind == 5 ? m.told[0] : sense(m).used().size();
    }

    private static final String NUMBER = "\\d{1,3}";
    private static final String SIGNED = "-?" + NUMBER;
    private static final String ITEM = NUMBER + "(\\*" + NUMBER + ")?";
    private static final Pattern SHAPE = Pattern.compile("so " + ITEM + "(," + ITEM + "){0,11}(;(wish " + SIGNED
        + "|lean " + SIGNED + "|words " + NUMBER + "|loss [sa]|two " + SIGNED + " " + SIGNED + "))*");
    private static final Pattern TOKEN = Pattern.compile("[a-z]+|-|[ ,;*]|" + NUMBER);

    /** Whether something could stand behind the text, or nothing at all, so that it were of a talk's shape. */
    private static boolean goesOn(String text) {
        Matcher m = SHAPE.matcher(text);
        return m.matches() || m.hitEnd();
    }

    static int faultOf(String text, T into) {
        int right = 0;
        while (right < text.length() && goesOn(text.substring(0, right + 1))) {
            right++;
        }
        int number = wrongNumber(text.substring(0, right), into);
        if (number >= 0) {
            return number;
        }
        return right < text.length() || !SHAPE.matcher(text).matches() ? right : -1;
    }

    /** The place of the first NUMBER that may not be; what the others tell goes into the talk. */
    private static int wrongNumber(String text, T into) {
        Matcher m = TOKEN.matcher(text);
        String part = "";
        String ahead = "";
        int last = -1;
        int nth = 0;
        int[] two = new int[2];
        while (m.find()) {
            String token = m.group();
            if (Character.isDigit(token.charAt(0))) {
                int v = Integer.parseInt(token);
                int signed = ahead.equals("-") ? -v : v;
                boolean may;
                if (part.equals("so") && ahead.equals("*")) {
                    may = v >= 1 && v <= 99;
                    into.items.get(into.items.size() - 1)[1] = v;
                } else if (part.equals("so")) {
                    may = v > last;
                    last = v;
                    into.items.add(new int[] {v, 1});
                } else if (part.equals("words")) {
                    may = v >= 1 && v <= 12;
                    into.words = v;
                } else {
                    may = v <= 500;
                    if (part.equals("wish")) {
                        into.wish = signed;
                    } else if (part.equals("lean")) {
                        into.lean = signed;
                    } else {
                        two[nth % 2] = signed;
                        nth++;
                        if (nth % 2 == 0) {
                            into.second = two.clone();
                        }
                    }
                }
                if (!may) {
                    return m.start();
                }
            } else if (part.equals("loss") && (token.equals("s") || token.equals("a"))) {
                into.squares = token.equals("s");
            } else if (Character.isLetter(token.charAt(0))) {
                part = token;
                nth = 0;
            }
            ahead = token;
        }
        return -1;
    }

    long talk(int s) {
        R r = rowOf(s);
        StringBuilder text = new StringBuilder();
        for (long v : r.e) {
            int letter = (int) v;
            text.append(letter >= 0 && letter < 128 ? (char) letter : '#');
        }
        T talk = new T();
        fault = faultOf(text.toString(), talk);
        refuseIf(fault >= 0, 6);
        refuseIf(talks.size() == 8, 7);
        talks.add(talk);
        return talks.size() - 1;
    }

    long fault() {
        return fault;
    }

    long talkOf(int talk, int what) {
        T t = talkOr(talk, 5);
        refuseIf(!in(what, 0, 7), 5);
        int[] of = {t.n(), t.wish, t.lean, t.words, t.squares ? 0 : 1, t.second == null ? 0 : 1,
            t.second == null ? 0 : t.second[0], t.second == null ? 0 : t.second[1]};
        return of[what];
    }

    long truth(int talk, int truth, int what) {
        T t = talkOr(talk, 5);
        refuseIf(!in(truth, 0, t.n() - 1) || !in(what, 0, 1), 5);
        return t.items.get(truth)[what];
    }

    long done(int talk, int set) {
        T t = talkOr(talk, 1);
        refuseIf(set < 0 || set >= 1 << t.n(), 1);
        refuseIf(set == 0, 6);
        long[] weights = new long[t.n()];
        for (int i = 0; i < t.n(); i++) {
            weights[i] = (set & 1 << i) != 0 ? t.chance(i) : 0;
        }
        return doneBy(t, weights, t.lean);
    }

    long change(int talk, int what, int v) {
        T t = talkOr(talk, 1);
        refuseIf(!in(what, 0, 1) || !in(v, -500, 500), 6);
        int was = what == 0 ? t.wish : t.lean;
        if (what == 0) {
            t.wish = v;
        } else {
            t.lean = v;
        }
        return was;
    }

    long chance(int talk, int truth, int v) {
        T t = talkOr(talk, 1);
        refuseIf(!in(truth, 0, t.n() - 1), 1);
        refuseIf(!in(v, 1, 99), 6);
        int was = t.chance(truth);
        t.items.get(truth)[1] = v;
        return was;
    }

    private static int[] parts(T t, int cuts) {
        int[] words = new int[t.n()];
        for (int i = 1; i < t.n(); i++) {
            words[i] = words[i - 1] + ((cuts & 1 << (i - 1)) != 0 ? 1 : 0);
        }
        return words;
    }

    long meaning(int talk, int kind, int s, int more) {
        T t = talkOr(talk, 1);
        refuseIf(!in(kind, 0, 5), 1);
        M m = new M();
        m.kind = kind;
        m.talk = talk;
        m.clear = more;
        if (kind == 0 || kind == 2 || kind == 5) {
            R r = rowOf(s);
            refuseIf(r.e.length < t.n(), 5);
            m.words = new int[t.n()];
            for (int i = 0; i < t.n(); i++) {
                m.words[i] = (int) r.e[i];
                refuseIf(!in(m.words[i], 0, t.words - 1), 6);
            }
            refuseIf(kind == 2 && !in(more, 0, 100), 6);
        } else {
            int cuts = kind == 1 ? more : kind == 3 ? 0 : (1 << t.n() - 1) - 1;
            refuseIf(!in(cuts, 0, (1 << t.n() - 1) - 1), 6);
            m.words = parts(t, cuts);
            refuseIf(m.words[t.n() - 1] >= t.words, 6);
        }
        refuseIf(meanings.size() == 12, 7);
        meanings.add(m);
        return meanings.size() - 1;
    }

    long tell(int meaning, int word, int v) {
        M m = meaningOr(meaning, 1);
        refuseIf(m.kind != 5, 2);
        refuseIf(!in(word, 0, 11) || !in(v, 0, 999), 6);
        int was = m.told[word];
        m.told[word] = v;
        return was;
    }

    long meaningOf(int meaning, int what) {
        M m = meaningOr(meaning, 5);
        refuseIf(!in(what, 0, 3), 5);
        int bits = 0;
        for (int w : m.words) {
            bits |= 1 << w;
        }
        return new int[] {m.kind, m.talk, sense(m).used().size(), bits}[what];
    }

    long word(int meaning, int truth) {
        M m = meaningOr(meaning, 5);
        refuseIf(!in(truth, 0, m.words.length - 1), 5);
        return m.words[truth];
    }

    long thought(int meaning, int word) {
        M m = meaningOr(meaning, 5);
        refuseIf(!sense(m).used().contains(word), 5);
        int bits = 0;
        for (int t = 0; t < m.words.length; t++) {
            bits |= m.words[t] == word ? 1 << t : 0;
        }
        return bits;
    }

    long does(int meaning, int word) {
        Sense sense = sense(meaningOr(meaning, 5));
        refuseIf(!sense.used().contains(word), 5);
        return sense.acts.get(word);
    }

    private int fails(M m) {
        Sense sense = sense(m);
        int fails = sense.fails();
        if (fails >= 0 || m.kind != 5) {
            return fails;
        }
        for (int w : sense.used()) {
            for (int a = 0; a <= 999; a++) {
                if (sense.heard(w, a) < sense.heard(w, m.told[w])) {
                    return 10_000 + w;
                }
            }
        }
        return -1;
    }

    long judge(int meaning) {
        return fails(meaningOr(meaning, 5));
    }

    long regret(int meaning, int truth, int word) {
        M m = meaningOr(meaning, 5);
        Sense sense = sense(m);
        refuseIf(!in(truth, 0, m.words.length - 1) || !sense.used().contains(word), 5);
        return sense.regret(truth, word);
    }

    long worth(int meaning, int what) {
        M m = meaningOr(meaning, 5);
        refuseIf(!in(what, 0, 1), 5);
        return sense(m).worth(what);
    }

    long beside(int talk, int what) {
        T t = talkOr(talk, 5);
        refuseIf(!in(what, 0, 1), 5);
        Sense nothing = new Sense(t, parts(t, 0), null, t.lean, t.wish);
        Sense all = new Sense(t, parts(t, (1 << t.n() - 1) - 1), null, t.lean, t.wish);
        return nothing.worth(what) - all.worth(what);
    }

    private static int wordCount(int cuts) {
        return Integer.bitCount(cuts) + 1;
    }

    /** The CUTS of all RUNS, the least first. */
    private static List<Integer> allRuns(T t) {
        List<Integer> runs = new ArrayList<>();
        for (int cuts = 0; cuts < 1 << t.n() - 1; cuts++) {
            if (wordCount(cuts) <= t.words) {
                runs.add(cuts);
            }
        }
        return runs;
    }

    private static List<Integer> holdingRuns(T t, int lean, int wish) {
        List<Integer> runs = new ArrayList<>();
        for (int cuts : allRuns(t)) {
            if (new Sense(t, parts(t, cuts), null, lean, wish).fails() < 0) {
                runs.add(cuts);
            }
        }
        return runs;
    }

    private static int finestOf(T t, int lean, int wish) {
        int best = -1;
        for (int cuts : holdingRuns(t, lean, wish)) {
            best = best < 0 || wordCount(cuts) > wordCount(best) ? cuts : best;
        }
        return best;
    }

    long runs(int talk) {
        T t = talkOr(talk, 1);
        return holdingRuns(t, t.lean, t.wish).size();
    }

    long finest(int talk) {
        T t = talkOr(talk, 1);
        return finestOf(t, t.lean, t.wish);
    }

    long bound(int talk) {
        T t = talkOr(talk, 1);
        return wordCount(finestOf(t, t.lean, t.wish));
    }

    private static long worthOfRun(T t, int cuts, int side) {
        return new Sense(t, parts(t, cuts), null, t.lean, t.wish).worth(side);
    }

    private static int bestOf(T t, int side) {
        int best = -1;
        for (int cuts : holdingRuns(t, t.lean, t.wish)) {
            best = best < 0 || worthOfRun(t, cuts, side) < worthOfRun(t, best, side) ? cuts : best;
        }
        return best;
    }

    long best(int talk, int side) {
        T t = talkOr(talk, 1);
        refuseIf(!in(side, 0, 1), 6);
        return bestOf(t, side);
    }

    long any(int talk) {
        T t = talkOr(talk, 1);
        refuseIf(t.n() > 6, 6);
        Set<String> seen = new HashSet<>();
        int count = 0;
        int all = 1;
        for (int i = 0; i < t.n(); i++) {
            all *= t.n();
        }
        for (int way = 0; way < all; way++) {
            int[] words = new int[t.n()];
            StringBuilder name = new StringBuilder();
            for (int i = 0, left = way; i < t.n(); i++, left /= t.n()) {
                words[i] = left % t.n();
            }
            for (int i = 0; i < t.n(); i++) {
                for (int j = 0; j < i; j++) {
                    name.append(words[i] == words[j] ? '=' : '/');
                }
            }
            if (seen.add(name.toString())) {
                Sense sense = new Sense(t, words, null, t.lean, t.wish);
                count += sense.used().size() <= t.words && sense.fails() < 0 ? 1 : 0;
            }
        }
        return count;
    }

    long edge(int talk, int k) {
        T t = talkOr(talk, 1);
        refuseIf(!in(k, 1, 12), 6);
        int edge = -1;
        for (int cuts : allRuns(t)) {
            if (wordCount(cuts) == k) {
                Sense sense = new Sense(t, parts(t, cuts), null, t.lean, 0);
                for (sense.wish = 63; sense.wish >= 0; sense.wish--) {
                    if (sense.fails() < 0) {
                        edge = Math.max(edge, sense.wish);
                        break;
                    }
                }
            }
        }
        return edge;
    }

    private static boolean holdsForBoth(Sense one, Sense two) {
        for (int t = 0; t < one.words.length; t++) {
            for (int w : one.used()) {
                if (one.regret(t, w) + two.regret(t, w) < one.regret(t, one.words[t]) + two.regret(t, one.words[t])) {
                    return false;
                }
            }
        }
        return true;
    }

    long room(int talk) {
        T t = talkOr(talk, 1);
        refuseIf(t.second == null, 6);
        int most = 0;
        for (int cuts : allRuns(t)) {
            Sense one = new Sense(t, parts(t, cuts), null, t.lean, t.wish);
            Sense two = new Sense(t, parts(t, cuts), null, t.second[0], t.second[1]);
            most = holdsForBoth(one, two) ? Math.max(most, wordCount(cuts)) : most;
        }
        return most;
    }

    long doors(int talk) {
        T t = talkOr(talk, 1);
        refuseIf(t.second == null, 6);
        int second = wordCount(finestOf(t, t.second[0], t.second[1]));
        return 100 * second + wordCount(finestOf(t, t.lean, t.wish));
    }

    long middle(int talk, int k, int what) {
        T t = talkOr(talk, 1);
        refuseIf(!in(k, 1, 12) || !in(what, 0, 1), 6);
        int[] best = {-1, -1};
        long least = 0;
        for (int clear = 0; clear <= 100; clear += 5) {
            for (int cuts : allRuns(t)) {
                if (wordCount(cuts) != k) {
                    continue;
                }
                Sense sense = new Sense(t, parts(t, cuts), clear, t.lean, t.wish);
                if (sense.fails() >= 0) {
                    continue;
                }
                long worth = sense.worth(0) / (100 * k);
                if (best[0] < 0 || worth < least || worth == least && clear > best[0]) {
                    best = new int[] {clear, cuts};
                    least = worth;
                }
            }
        }
        return best[what];
    }

    private static long endsLoss(T t, int a, int b) {
        long sum = 0;
        for (int i = 0; i < t.n(); i++) {
            int act = Math.max(a, Math.min(b, t.x(i) + t.wish));
            sum += t.chance(i) * t.loss(act - (t.x(i) + t.lean));
        }
        return sum;
    }

    long ends(int talk, int a, int b) {
        T t = talkOr(talk, 5);
        refuseIf(!in(a, 0, 999) || !in(b, 0, 999) || a > b, 5);
        return endsLoss(t, a, b);
    }

    private static int[] bestPair(T t) {
        TreeSet<Integer> places = new TreeSet<>();
        for (int i = 0; i < t.n(); i++) {
            places.add(Math.max(0, Math.min(999, t.x(i) + t.wish)));
            places.add(Math.max(0, Math.min(999, t.x(i) + t.lean)));
        }
        int[] best = null;
        for (int a : places) {
            for (int b : places.tailSet(a)) {
                if (best == null || endsLoss(t, a, b) < endsLoss(t, best[0], best[1])) {
                    best = new int[] {a, b};
                }
            }
        }
        return best;
    }

    long bestEnds(int talk) {
        int[] best = bestPair(talkOr(talk, 1));
        return 1000L * best[0] + best[1];
    }

    long leave(int talk) {
        T t = talkOr(talk, 1);
        int[] best = bestPair(t);
        return endsLoss(t, best[0], best[1]) < worthOfRun(t, bestOf(t, 0), 0) ? 1 : 0;
    }

    private static int doneAtOne(T t, int truth) {
        long[] weights = new long[t.n()];
        weights[truth] = t.chance(truth);
        return doneBy(t, weights, t.lean);
    }

    long agree(int talk, int wish) {
        T t = talkOr(talk, 1);
        refuseIf(!in(wish, -500, 500), 6);
        for (int told = 0; told < t.n(); told++) {
            for (int other = 0; other < t.n(); other++) {
                if (told == other) {
                    continue;
                }
                boolean some = false;
                for (int a = 0; a <= 999 && !some; a++) {
                    int speaker = t.x(other) + t.wish;
                    int second = t.x(told) + wish;
                    some = t.loss(a - speaker) >= t.loss(doneAtOne(t, other) - speaker)
                        && t.loss(a - second) >= t.loss(doneAtOne(t, told) - second);
                }
                if (!some) {
                    return 100 * told + other;
                }
            }
        }
        return -1;
    }

    long still() {
        long bits = 0;
        for (int m = 0; m < meanings.size(); m++) {
            bits |= fails(meanings.get(m)) < 0 ? 1 << m : 0;
        }
        return bits;
    }

    private long z;

    private long nextZ() {
        z = (z * 1_103_515_245L + 12_345L) % (1L << 31);
        return z / 65_536;
    }

    long draw(int meaning, int seed, int n) {
        M m = meaningOr(meaning, 5);
        refuseIf(!in(n, 1, 200), 5);
        T t = talks.get(m.talk);
        Sense sense = sense(m);
        List<Integer> lots = new ArrayList<>();
        for (int i = 0; i < t.n(); i++) {
            for (int c = 0; c < t.chance(i); c++) {
                lots.add(i);
            }
        }
        z = seed & 0x7fff_ffffL;
        long sum = 0;
        for (int i = 0; i < n; i++) {
            int truth = lots.get((int) (nextZ() % lots.size()));
            int word = m.words[truth];
            if (m.kind == 2 && nextZ() % 100 >= m.clear) {
                List<Integer> used = new ArrayList<>(sense.used());
                word = used.get((int) (nextZ() % used.size()));
            }
            sum += t.loss(sense.acts.get(word) - (t.x(truth) + t.lean));
        }
        return sum;
    }

    static class AMeaning {
        int m;
        int k;
        List<Integer> ran = new ArrayList<>();

        int thinks(int x) {
            ran.add(10);
            return x + m;
        }

        int says(int x) {
            ran.add(11);
            return thinks(x) * 2;
        }

        int does(int x) {
            ran.add(12);
            return says(x) ^ thinks(x - k);
        }
    }

    static class AParts extends AMeaning {
        @Override
        int thinks(int x) {
            ran.add(20);
            return super.thinks(x) * 3;
        }
    }

    static class ANothing extends AParts {
        @Override
        int says(int x) {
            ran.add(30);
            return super.says(x) - m;
        }
    }

    static class AnAll extends AParts {
        @Override
        int does(int x) {
            ran.add(40);
            return super.does(x + 1);
        }

        @Override
        int says(int x) {
            ran.add(41);
            return -super.says(x);
        }
    }

    static class ABlur extends AMeaning {
        @Override
        int does(int x) {
            ran.add(50);
            return super.does(x) + k;
        }
    }

    static class ATold extends AMeaning {
        @Override
        int thinks(int x) {
            ran.add(60);
            return super.thinks(x) ^ 5;
        }

        @Override
        int does(int x) {
            ran.add(61);
            return super.does(x) * 2;
        }
    }

    long act(int meaning, int act, int x) {
        traced = new ArrayList<>();
        if (!in(meaning, 0, meanings.size() - 1) || !in(act, 0, 2)) {
            return 0;
        }
        AMeaning[] kinds = {new AMeaning(), new AParts(), new ABlur(), new ANothing(), new AnAll(), new ATold()};
        AMeaning one = kinds[meanings.get(meaning).kind];
        one.m = meaning;
        one.k = meanings.get(meaning).talk;
        one.ran = traced;
        return act == 0 ? one.thinks(x) : act == 1 ? one.says(x) : one.does(x);
    }

    long trace(int i) {
        return in(i, 0, Math.min(20, traced.size()) - 1) ? traced.get(i) : -1;
    }

    private static List<T> copiedTalks(List<T> talks) {
        List<T> copies = new ArrayList<>();
        for (T t : talks) {
            copies.add(t.copied());
        }
        return copies;
    }

    private static List<M> copiedMeanings(List<M> meanings) {
        List<M> copies = new ArrayList<>();
        for (M m : meanings) {
            copies.add(m.copied());
        }
        return copies;
    }

    long image() {
        keptTalks = copiedTalks(talks);
        keptMeanings = copiedMeanings(meanings);
        return meanings.size();
    }

    long restore() {
        refuseIf(keptTalks == null, 6);
        talks = copiedTalks(keptTalks);
        meanings = copiedMeanings(keptMeanings);
        for (int s = 0; s < 8; s++) {
            if (shelves[s] instanceof Integer && (Integer) shelves[s] >= meanings.size()) {
                shelves[s] = null;
            }
        }
        return meanings.size();
    }

    long status(int what) {
        if (in(what, 11, 17)) {
            return refusals[what - 10];
        }
        switch (what) {
            case 0:
                return talks.size();
            case 1:
                return meanings.size();
            case 2:
                return Long.bitCount(still());
            case 3:
                return traced.size();
            default:
                return -1;
        }
    }

    /** What is taken from a refused call's answer for its number: those that may be below 0 lie far off. */
    static long baseOf(String call) {
        switch (call) {
            case "talkOf":
            case "change":
            case "regret":
            case "worth":
            case "beside":
            case "ends":
            case "draw":
                return FAR;
            case "edge":
            case "middle":
            case "agree":
                return -10;
            default:
                return 0;
        }
    }
}
