/** What one says for nothing: talks, what words mean in them, and which meanings hold. */
public final class SaidForNothing {
    public static final int NONE = -1;

    private static final int SHELF_LIMIT = 8;
    private static final int TALK_LIMIT = 8;
    private static final int MEANING_LIMIT = 12;
    private static final int CELL_LIMIT = 64;
    /** At most so many truths in a talk, and so many words. */
    private static final int TRUTH_LIMIT = 12;
    private static final int ACT_LIMIT = 999;
    private static final int SHIFT_LIMIT = 500;
    private static final int CHANCE_LIMIT = 99;
    private static final int TRACE_LIMIT = 20;
    private static final int DRAW_LIMIT = 200;
    private static final int WISH_LIMIT = 63;
    private static final int ANY_LIMIT = 6;
    /** Six truths can be parted in 203 ways. */
    private static final int MOST_WAYS = 203;
    private static final int LOW_31 = 0x7fff_ffff;

    private static final int BYTES = 0;
    private static final int SHORTS = 1;
    private static final int INTS = 2;
    private static final int LONGS = 3;

    private static final int SQUARES = 0;
    private static final int DISTANCES = 1;

    private static final int MEANING = 0;
    private static final int PARTS = 1;
    private static final int BLUR = 2;
    private static final int SILENT = 3;
    private static final int ALL = 4;
    private static final int TOLD = 5;

    private static final int THINKS = 0;
    private static final int SAYS = 1;
    private static final int DOES = 2;

    private static final int NOBODY = 1;
    private static final int OTHER = 2;
    private static final int EMPTY = 3;
    private static final int BELOW = 4;
    private static final int BEYOND = 5;
    private static final int WRONG = 6;
    private static final int CROWDED = 7;

    private final Shelf[] shelves = new Shelf[SHELF_LIMIT];
    private final Store now = new Store();
    private final Store kept = new Store();
    private boolean imaged = false;
    private final Ints refusals = new Ints(CROWDED + 1);
    private int faultPlace = NONE;
    private final Talk draft = new Talk();
    private final Letters letters = new Letters();
    private final Reading view = new Reading();
    private final Search search = new Search();
    private final Bodies bodies = new Bodies();

    public SaidForNothing() {
        for (int s = 0; s < shelves.length; s++) {
            shelves[s] = new Shelf();
        }
    }

    // ---- shelves ----

    public int row(int s, int sort, int n) {
        Shelf shelf = shelfAt(s);
        if (shelf == null) {
            return refuse(NOBODY);
        }
        if (n < 0) {
            return refuse(BELOW);
        }
        if (sort < BYTES || sort > LONGS) {
            return refuse(WRONG);
        }
        if (n > CELL_LIMIT) {
            return refuse(CROWDED);
        }
        shelf.lay(sort, n);
        return 1;
    }

    public int set(int s, int i, long v) {
        int flaw = rowFlaw(s);
        Shelf shelf = shelfAt(s);
        if (flaw != 0 || shelf == null) {
            return refuse(flaw);
        }
        if (!shelf.reaches(i)) {
            return refuse(BEYOND);
        }
        shelf.put(i, v);
        return 1;
    }

    public int copy(int p, int q, int i, int j, int n) {
        Shelf from = shelfAt(p);
        Shelf to = shelfAt(q);
        if (from == null || to == null) {
            return refuse(NOBODY);
        }
        if (from.shows() || to.shows()) {
            return refuse(OTHER);
        }
        if (from.lies() && to.lies() && from.sort != to.sort) {
            return refuse(OTHER);
        }
        if (!from.lies() || !to.lies()) {
            return refuse(EMPTY);
        }
        if (n < 0) {
            return refuse(BELOW);
        }
        if (!from.spans(i, n) || !to.spans(j, n)) {
            return refuse(BEYOND);
        }
        to.bring(from, i, j, n);
        return 1;
    }

    public long element(int s, int i) {
        Shelf shelf = shelfAt(s);
        return shelf == null ? 0 : shelf.cell(i);
    }

    public int show(int s, int meaning) {
        Shelf shelf = shelfAt(s);
        if (shelf == null) {
            return refuse(NOBODY);
        }
        if (meaning == NONE) {
            shelf.empty();
            return 0;
        }
        if (now.meaningAt(meaning) == null) {
            return refuse(NOBODY);
        }
        shelf.hang(meaning);
        return 1;
    }

    public int holds(int s) {
        Shelf shelf = shelfAt(s);
        if (shelf == null) {
            return NONE;
        }
        if (shelf.lies()) {
            return 100 + shelf.sort;
        }
        return shelf.shows() ? shelf.shown : NONE;
    }

    public int says(int s, int kind) {
        Shelf shelf = shelfAt(s);
        if (shelf == null || !isKind(kind)) {
            return refuse(NOBODY);
        }
        if (shelf.lies()) {
            return refuse(OTHER);
        }
        Meaning meaning = shelf.shows() ? now.meaningAt(shelf.shown) : null;
        if (meaning == null) {
            return refuse(EMPTY);
        }
        if (!isUnder(meaning.kind, kind)) {
            return refuse(OTHER);
        }
        switch (kind) {
            case MEANING:
                return meaning.talk;
            case BLUR:
                return meaning.clear;
            case TOLD:
                return meaning.told.get(0);
            default:
                return Integer.bitCount(usedBits(meaning));
        }
    }

    // ---- talks ----

    public int talk(int s) {
        int flaw = rowFlaw(s);
        Shelf shelf = shelfAt(s);
        if (flaw != 0 || shelf == null) {
            return refuse(flaw);
        }
        faultPlace = letters.read(shelf, draft);
        if (faultPlace != NONE) {
            return refuse(WRONG);
        }
        Talk fresh = now.nextTalk();
        if (fresh == null) {
            return refuse(CROWDED);
        }
        fresh.copyFrom(draft);
        now.talkCount++;
        return now.talkCount - 1;
    }

    public int fault() {
        return faultPlace;
    }

    public int talkOf(int talk, int what) {
        Talk of = now.talkAt(talk);
        if (of == null || what < 0 || what > 7) {
            return refuseFar(BEYOND);
        }
        switch (what) {
            case 0:
                return of.truths;
            case 1:
                return of.wish;
            case 2:
                return of.lean;
            case 3:
                return of.words;
            case 4:
                return of.loss;
            case 5:
                return of.second ? 1 : 0;
            case 6:
                return of.secondLean;
            default:
                return of.secondWish;
        }
    }

    public int truth(int talk, int truth, int what) {
        Talk of = now.talkAt(talk);
        if (of == null || !of.hasTruth(truth) || what < 0 || what > 1) {
            return refuse(BEYOND);
        }
        return what == 0 ? of.xs.get(truth) : of.chances.get(truth);
    }

    public int done(int talk, int set) {
        Talk of = now.talkAt(talk);
        if (of == null || set >> of.truths != 0) {
            return refuse(NOBODY);
        }
        if (set == 0) {
            return refuse(WRONG);
        }
        view.take(of, of.lean, of.wish);
        for (int t = 0; t < of.truths; t++) {
            view.put(t, (set >> t & 1) == 1 ? 0 : 1);
        }
        view.settle();
        return view.actAt(0);
    }

    public int change(int talk, int what, int v) {
        Talk of = now.talkAt(talk);
        if (of == null) {
            return refuseFar(NOBODY);
        }
        if (what < 0 || what > 1 || !isShift(v)) {
            return refuseFar(WRONG);
        }
        int was = what == 0 ? of.wish : of.lean;
        if (what == 0) {
            of.wish = v;
        } else {
            of.lean = v;
        }
        return was;
    }

    public int chance(int talk, int truth, int v) {
        Talk of = now.talkAt(talk);
        if (of == null || !of.hasTruth(truth)) {
            return refuse(NOBODY);
        }
        if (v < 1 || v > CHANCE_LIMIT) {
            return refuse(WRONG);
        }
        int was = of.chances.get(truth);
        of.chances.put(truth, v);
        return was;
    }

    // ---- meanings ----

    public int meaning(int talk, int kind, int s, int more) {
        Talk of = now.talkAt(talk);
        if (of == null || !isKind(kind)) {
            return refuse(NOBODY);
        }
        boolean byRow = kind == MEANING || kind == BLUR || kind == TOLD;
        int cuts = kind == PARTS ? more : kind == ALL ? of.cutsEnd() - 1 : 0;
        int flaw = byRow ? wordsFlaw(of, s) : cutsFlaw(of, cuts);
        if (flaw == 0 && kind == BLUR && (more < 0 || more > 100)) {
            flaw = WRONG;
        }
        Meaning fresh = now.nextMeaning();
        if (flaw == 0 && fresh == null) {
            flaw = CROWDED;
        }
        if (flaw != 0 || fresh == null) {
            return refuse(flaw);
        }
        fresh.begin(talk, kind, kind == BLUR ? more : 100);
        if (byRow) {
            fresh.wordsFrom(shelfAt(s), of.truths);
        } else {
            fresh.wordsBy(cuts, of.truths);
        }
        now.meaningCount++;
        return now.meaningCount - 1;
    }

    public int tell(int meaning, int word, int v) {
        Meaning of = now.meaningAt(meaning);
        if (of == null) {
            return refuse(NOBODY);
        }
        if (of.kind != TOLD) {
            return refuse(OTHER);
        }
        if (word < 0 || word >= TRUTH_LIMIT || !isAct(v)) {
            return refuse(WRONG);
        }
        int was = of.told.get(word);
        of.told.put(word, v);
        return was;
    }

    public int meaningOf(int meaning, int what) {
        Meaning of = now.meaningAt(meaning);
        if (of == null || what < 0 || what > 3) {
            return refuse(BEYOND);
        }
        switch (what) {
            case 0:
                return of.kind;
            case 1:
                return of.talk;
            case 2:
                return Integer.bitCount(usedBits(of));
            default:
                return usedBits(of);
        }
    }

    public int word(int meaning, int truth) {
        if (!view.open(now, meaning) || !view.hasTruth(truth)) {
            return refuse(BEYOND);
        }
        return view.wordOf(truth);
    }

    public int thought(int meaning, int word) {
        if (!view.open(now, meaning) || !view.isUsed(word)) {
            return refuse(BEYOND);
        }
        return view.truthsAt(word);
    }

    public int does(int meaning, int word) {
        if (!view.open(now, meaning) || !view.isUsed(word)) {
            return refuse(BEYOND);
        }
        return view.actAt(word);
    }

    public int judge(int meaning) {
        if (!view.open(now, meaning)) {
            return refuse(BEYOND);
        }
        return view.verdict();
    }

    public long regret(int meaning, int truth, int word) {
        if (!view.open(now, meaning) || !view.hasTruth(truth) || !view.isUsed(word)) {
            return refuseFar(BEYOND);
        }
        return view.regretOf(truth, word);
    }

    public long worth(int meaning, int what) {
        if (!isSide(what) || !view.open(now, meaning)) {
            return refuseFar(BEYOND);
        }
        return view.worthFor(what);
    }

    public long beside(int talk, int what) {
        Talk of = now.talkAt(talk);
        if (of == null || !isSide(what)) {
            return refuseFar(BEYOND);
        }
        view.take(of, of.lean, of.wish);
        view.putParts(0);
        view.settle();
        long nothing = view.worthFor(what);
        view.putParts(of.cutsEnd() - 1);
        view.settle();
        return nothing - view.worthFor(what);
    }

    // ---- what can be said ----

    public int runs(int talk) {
        Talk of = now.talkAt(talk);
        return of == null ? refuse(NOBODY) : search.countRuns(of);
    }

    public int finest(int talk) {
        Talk of = now.talkAt(talk);
        return of == null ? refuse(NOBODY) : search.finestCuts(of, of.lean, of.wish);
    }

    public int bound(int talk) {
        Talk of = now.talkAt(talk);
        return of == null ? refuse(NOBODY) : search.mostWords(of, of.lean, of.wish);
    }

    public int best(int talk, int side) {
        Talk of = now.talkAt(talk);
        if (of == null) {
            return refuse(NOBODY);
        }
        return isSide(side) ? search.bestCuts(of, side) : refuse(WRONG);
    }

    public int any(int talk) {
        Talk of = now.talkAt(talk);
        if (of == null) {
            return refuse(NOBODY);
        }
        return of.truths > ANY_LIMIT ? refuse(WRONG) : search.countWays(of);
    }

    public int edge(int talk, int k) {
        Talk of = now.talkAt(talk);
        if (of == null) {
            return refuseTen(NOBODY);
        }
        return isCount(k) ? search.edgeOf(of, k) : refuseTen(WRONG);
    }

    public int room(int talk) {
        Talk of = now.talkAt(talk);
        if (of == null) {
            return refuse(NOBODY);
        }
        return of.second ? search.mostWordsForBoth(of) : refuse(WRONG);
    }

    public int doors(int talk) {
        Talk of = now.talkAt(talk);
        if (of == null) {
            return refuse(NOBODY);
        }
        if (!of.second) {
            return refuse(WRONG);
        }
        int second = search.mostWords(of, of.secondLean, of.secondWish);
        return 100 * second + search.mostWords(of, of.lean, of.wish);
    }

    public int middle(int talk, int k, int what) {
        Talk of = now.talkAt(talk);
        if (of == null) {
            return refuseTen(NOBODY);
        }
        if (!isCount(k) || what < 0 || what > 1) {
            return refuseTen(WRONG);
        }
        search.findMiddleman(of, k);
        return what == 0 ? search.middleClear : search.middleCuts;
    }

    public long ends(int talk, int a, int b) {
        Talk of = now.talkAt(talk);
        if (of == null || !isAct(a) || !isAct(b) || a > b) {
            return refuseFar(BEYOND);
        }
        return of.lossWithin(a, b);
    }

    public int bestEnds(int talk) {
        Talk of = now.talkAt(talk);
        return of == null ? refuse(NOBODY) : of.bestPair();
    }

    public int leave(int talk) {
        Talk of = now.talkAt(talk);
        if (of == null) {
            return refuse(NOBODY);
        }
        int pair = of.bestPair();
        search.bestCuts(of, 0);
        return of.lossWithin(pair / 1000, pair % 1000) < search.bestWorth ? 1 : 0;
    }

    public int agree(int talk, int wish) {
        Talk of = now.talkAt(talk);
        if (of == null) {
            return refuseTen(NOBODY);
        }
        return isShift(wish) ? of.firstDispute(wish) : refuseTen(WRONG);
    }

    public int still() {
        return holdingBits();
    }

    public long draw(int meaning, int seed, int n) {
        if (n < 1 || n > DRAW_LIMIT || !view.open(now, meaning)) {
            return refuseFar(BEYOND);
        }
        return view.drawnLoss(seed, n);
    }

    public int act(int meaning, int act, int x) {
        Meaning of = now.meaningAt(meaning);
        if (of == null || act < THINKS || act > DOES) {
            bodies.forget();
            return 0;
        }
        bodies.begin(of.kind, meaning, of.talk);
        switch (act) {
            case THINKS:
                return bodies.thinking(x);
            case SAYS:
                return bodies.saying(x);
            default:
                return bodies.doing(x);
        }
    }

    public int trace(int i) {
        return bodies.kept(i);
    }

    public int image() {
        kept.copyFrom(now);
        imaged = true;
        return kept.meaningCount;
    }

    public int restore() {
        if (!imaged) {
            return refuse(WRONG);
        }
        now.copyFrom(kept);
        for (Shelf shelf : shelves) {
            if (shelf.shows() && shelf.shown >= now.meaningCount) {
                shelf.empty();
            }
        }
        return now.meaningCount;
    }

    public int status(int what) {
        if (what > 10 && what <= 10 + CROWDED) {
            return refusals.get(what - 10);
        }
        switch (what) {
            case 0:
                return now.talkCount;
            case 1:
                return now.meaningCount;
            case 2:
                return Integer.bitCount(holdingBits());
            case 3:
                return bodies.ran;
            default:
                return NONE;
        }
    }

    // ---- refusals and what they look at ----

    private int refuse(int why) {
        refusals.put(why, refusals.get(why) + 1);
        return -why;
    }

    /** For answers that may themselves be below 0. */
    private int refuseFar(int why) {
        return refuse(why) - 2_000_000_000;
    }

    /** For answers that may be NONE, which -1 would be taken for. */
    private int refuseTen(int why) {
        return refuse(why) - 10;
    }

    private Shelf shelfAt(int s) {
        return s >= 0 && s < shelves.length ? shelves[s] : null;
    }

    /** Why SHELF s can't be read as a ROW; 0 if it can. */
    private int rowFlaw(int s) {
        Shelf shelf = shelfAt(s);
        if (shelf == null) {
            return NOBODY;
        }
        if (shelf.shows()) {
            return OTHER;
        }
        return shelf.lies() ? 0 : EMPTY;
    }

    /** Why the ROW in SHELF s can't give each TRUTH its word; 0 if it can. */
    private int wordsFlaw(Talk talk, int s) {
        int flaw = rowFlaw(s);
        Shelf shelf = shelfAt(s);
        if (flaw != 0 || shelf == null) {
            return flaw;
        }
        if (shelf.size < talk.truths) {
            return BEYOND;
        }
        for (int t = 0; t < talk.truths; t++) {
            if (shelf.letter(t) < 0 || shelf.letter(t) >= talk.words) {
                return WRONG;
            }
        }
        return 0;
    }

    private int cutsFlaw(Talk talk, int cuts) {
        boolean fits = cuts >= 0 && cuts < talk.cutsEnd() && talk.allows(cuts);
        return fits ? 0 : WRONG;
    }

    private int usedBits(Meaning meaning) {
        Talk talk = now.talkAt(meaning.talk);
        int bits = 0;
        for (int t = 0; talk != null && t < talk.truths; t++) {
            bits |= 1 << meaning.words.get(t);
        }
        return bits;
    }

    private int holdingBits() {
        int bits = 0;
        for (int m = 0; m < now.meaningCount; m++) {
            if (view.open(now, m) && view.verdict() == NONE) {
                bits |= 1 << m;
            }
        }
        return bits;
    }

    private static boolean isKind(int kind) {
        return kind >= MEANING && kind <= TOLD;
    }

    private static boolean isUnder(int kind, int wanted) {
        boolean part = kind == PARTS || kind == SILENT || kind == ALL;
        return wanted == MEANING || wanted == kind || wanted == PARTS && part;
    }

    private static boolean isSide(int side) {
        return side == 0 || side == 1;
    }

    private static boolean isCount(int k) {
        return k >= 1 && k <= TRUTH_LIMIT;
    }

    private static boolean isAct(int v) {
        return v >= 0 && v <= ACT_LIMIT;
    }

    private static boolean isShift(int v) {
        return v >= -SHIFT_LIMIT && v <= SHIFT_LIMIT;
    }

    private static int within(long v, int low, int high) {
        return v < low ? low : v > high ? high : (int) v;
    }

    // ---- the classes inside ----

    /** Numbers in a row that look at every index, so that none can throw: beyond the ends is 0. */
    private static final class Ints {
        private final int[] cells;

        Ints(int length) {
            cells = new int[length > 0 ? length : 0];
        }

        int get(int i) {
            return i >= 0 && i < cells.length ? cells[i] : 0;
        }

        void put(int i, int v) {
            if (i >= 0 && i < cells.length) {
                cells[i] = v;
            }
        }

        void clear() {
            for (int i = 0; i < cells.length; i++) {
                cells[i] = 0;
            }
        }

        void copyFrom(Ints other) {
            for (int i = 0; i < cells.length; i++) {
                cells[i] = other.get(i);
            }
        }
    }

    /** A place for a row or a meaning; its cells are made once and used again by each new row. */
    private static final class Shelf {
        private static final int BARE = 0;
        private static final int ROW = 1;
        private static final int SHOWING = 2;

        private final long[] cells = new long[CELL_LIMIT];
        private int state = BARE;
        int sort = BYTES;
        int size = 0;
        int shown = NONE;

        boolean lies() {
            return state == ROW;
        }

        boolean shows() {
            return state == SHOWING;
        }

        void lay(int newSort, int newSize) {
            empty();
            state = ROW;
            sort = newSort;
            size = newSize < cells.length ? newSize : cells.length;
            for (int i = 0; i < cells.length; i++) {
                cells[i] = 0;
            }
        }

        void empty() {
            state = BARE;
            size = 0;
            shown = NONE;
        }

        void hang(int meaning) {
            empty();
            state = SHOWING;
            shown = meaning;
        }

        boolean reaches(int i) {
            return i >= 0 && i < size && i < cells.length;
        }

        boolean spans(int i, int n) {
            return i >= 0 && n >= 0 && n <= size && i <= size - n;
        }

        long cell(int i) {
            return reaches(i) ? cells[i] : 0;
        }

        int letter(int i) {
            return (int) cell(i);
        }

        void put(int i, long v) {
            if (reaches(i)) {
                cells[i] = cut(v);
            }
        }

        private long cut(long v) {
            switch (sort) {
                case BYTES:
                    return (byte) v;
                case SHORTS:
                    return (short) v;
                case INTS:
                    return (int) v;
                default:
                    return v;
            }
        }

        void bring(Shelf from, int i, int j, int n) {
            if (from.spans(i, n) && spans(j, n)) {
                System.arraycopy(from.cells, i, cells, j, n);
            }
        }
    }

    /** One talk: what may be so, and how far apart those are who speak and hear. */
    private static final class Talk {
        final Ints xs = new Ints(TRUTH_LIMIT);
        final Ints chances = new Ints(TRUTH_LIMIT);
        int truths = 0;
        int wish = 0;
        int lean = 0;
        int words = TRUTH_LIMIT;
        int loss = SQUARES;
        boolean second = false;
        int secondLean = 0;
        int secondWish = 0;

        void reset() {
            xs.clear();
            chances.clear();
            truths = 0;
            wish = 0;
            lean = 0;
            words = TRUTH_LIMIT;
            loss = SQUARES;
            second = false;
            secondLean = 0;
            secondWish = 0;
        }

        void copyFrom(Talk other) {
            xs.copyFrom(other.xs);
            chances.copyFrom(other.chances);
            truths = other.truths;
            wish = other.wish;
            lean = other.lean;
            words = other.words;
            loss = other.loss;
            second = other.second;
            secondLean = other.secondLean;
            secondWish = other.secondWish;
        }

        void add(int x, int chance) {
            if (truths < TRUTH_LIMIT) {
                xs.put(truths, x);
                chances.put(truths, chance);
                truths++;
            }
        }

        boolean hasTruth(int truth) {
            return truth >= 0 && truth < truths;
        }

        int cutsEnd() {
            return truths > 0 ? 1 << truths - 1 : 1;
        }

        boolean allows(int cuts) {
            return Integer.bitCount(cuts) < words;
        }

        long lossOf(long distance) {
            if (loss == SQUARES) {
                return distance * distance;
            }
            return distance < 0 ? -distance : distance;
        }

        int chanceSum() {
            int sum = 0;
            for (int t = 0; t < truths; t++) {
                sum += chances.get(t);
            }
            return sum;
        }

        long lossWithin(int low, int high) {
            long sum = 0;
            for (int t = 0; t < truths; t++) {
                int x = xs.get(t);
                sum += chances.get(t) * lossOf(within(x + wish, low, high) - x - lean);
            }
            return sum;
        }

        /** What the speaker, then what the hearer likes at each truth, kept to what can be done. */
        private int end(int i) {
            int liked = i < truths ? xs.get(i) + wish : xs.get(i - truths) + lean;
            return within(liked, 0, ACT_LIMIT);
        }

        /** The BEST ENDS; of equal losses the lesser pair wins, since it is the lesser number. */
        int bestPair() {
            int best = NONE;
            long least = 0;
            for (int i = 0; i < 2 * truths; i++) {
                for (int j = 0; j < 2 * truths; j++) {
                    int pair = 1000 * end(i) + end(j);
                    if (end(i) <= end(j)) {
                        long lost = lossWithin(end(i), end(j));
                        if (best == NONE || lost < least || lost == least && pair < best) {
                            best = pair;
                            least = lost;
                        }
                    }
                }
            }
            return best;
        }

        int firstDispute(int otherWish) {
            for (int t = 0; t < truths; t++) {
                for (int u = 0; u < truths; u++) {
                    if (t != u && !canPunish(t, u, otherWish)) {
                        return 100 * t + u;
                    }
                }
            }
            return NONE;
        }

        /**
         * Both would lose less only within an open stretch around what each likes. Going down from
         * anything that serves, one comes to 0 or to the upper end of a stretch: no more need be tried.
         */
        private boolean canPunish(int t, int u, int otherWish) {
            int speaker = xs.get(u) + wish;
            int other = xs.get(t) + otherWish;
            int speakerReach = Math.abs(within(xs.get(u) + lean, 0, ACT_LIMIT) - speaker);
            int otherReach = Math.abs(within(xs.get(t) + lean, 0, ACT_LIMIT) - other);
            for (int i = 0; i < 3; i++) {
                int act = i == 0 ? 0 : i == 1 ? speaker + speakerReach : other + otherReach;
                boolean far = Math.abs(act - speaker) >= speakerReach && Math.abs(act - other) >= otherReach;
                if (isAct(act) && far) {
                    return true;
                }
            }
            return false;
        }
    }

    /** Reads a talk from the letters of a row. Behind the last letter stand zeros, which fit nowhere. */
    private static final class Letters {
        private static final String WISH = "wish";
        private static final String LEAN = "lean";
        private static final String WORDS = "words";
        private static final String LOSS = "loss";
        private static final String TWO = "two";

        private final Ints signs = new Ints(CELL_LIMIT);
        private int size = 0;
        private int place = 0;
        private int fault = NONE;
        private int number = 0;

        /** The FAULT, or NONE when the talk could be read. */
        int read(Shelf row, Talk into) {
            begin(row);
            into.reset();
            boolean right = expectAll("so ") && items(into);
            for (int i = 0; right && i < CELL_LIMIT && place < size; i++) {
                right = expect(';') && part(into);
            }
            return fault;
        }

        private void begin(Shelf row) {
            for (int i = 0; i < CELL_LIMIT; i++) {
                signs.put(i, row.letter(i));
            }
            size = row.size;
            place = 0;
            fault = NONE;
        }

        private boolean at(char letter) {
            return signs.get(place) == letter;
        }

        private boolean fail(int where) {
            fault = where;
            return false;
        }

        private boolean expect(char letter) {
            if (!at(letter)) {
                return fail(place);
            }
            place++;
            return true;
        }

        private boolean expectAll(String sign) {
            for (int i = 0; i < sign.length(); i++) {
                if (!expect(sign.charAt(i))) {
                    return false;
                }
            }
            return true;
        }

        private boolean items(Talk into) {
            boolean right = item(into);
            for (int i = 1; right && i < TRUTH_LIMIT && at(','); i++) {
                place++;
                right = item(into);
            }
            return right;
        }

        private boolean item(Talk into) {
            int least = into.truths == 0 ? 0 : into.xs.get(into.truths - 1) + 1;
            if (!readNumber(least, 999)) {
                return false;
            }
            int x = number;
            int chance = 1;
            if (at('*')) {
                place++;
                if (!readNumber(1, CHANCE_LIMIT)) {
                    return false;
                }
                chance = number;
            }
            into.add(x, chance);
            return true;
        }

        /** Names that begin alike are told apart by their second letter, so a fault is found where it stands. */
        private String partName() {
            int second = signs.get(place + 1);
            if (at('w')) {
                return second == 'i' ? WISH : WORDS;
            }
            if (at('l')) {
                return second == 'e' ? LEAN : LOSS;
            }
            return TWO;
        }

        private boolean part(Talk into) {
            String name = partName();
            if (!expectAll(name) || !expect(' ')) {
                return false;
            }
            if (name.equals(WORDS)) {
                return wordsPart(into);
            }
            if (name.equals(LOSS)) {
                return lossPart(into);
            }
            if (!readSigned()) {
                return false;
            }
            int first = number;
            if (name.equals(WISH)) {
                into.wish = first;
                return true;
            }
            if (name.equals(LEAN)) {
                into.lean = first;
                return true;
            }
            return secondPart(into, first);
        }

        private boolean wordsPart(Talk into) {
            if (!readNumber(1, TRUTH_LIMIT)) {
                return false;
            }
            into.words = number;
            return true;
        }

        private boolean lossPart(Talk into) {
            if (at('a')) {
                place++;
                into.loss = DISTANCES;
                return true;
            }
            into.loss = SQUARES;
            return expect('s');
        }

        private boolean secondPart(Talk into, int first) {
            if (!expect(' ') || !readSigned()) {
                return false;
            }
            into.second = true;
            into.secondLean = first;
            into.secondWish = number;
            return true;
        }

        private boolean readSigned() {
            boolean below = at('-');
            if (below) {
                place++;
            }
            if (!readNumber(0, SHIFT_LIMIT)) {
                return false;
            }
            number = below ? -number : number;
            return true;
        }

        private boolean readNumber(int least, int most) {
            int start = place;
            number = 0;
            for (int i = 0; i < 3; i++) {
                int digit = signs.get(place) - '0';
                if (digit < 0 || digit > 9) {
                    break;
                }
                number = 10 * number + digit;
                place++;
            }
            if (place == start || number < least || number > most) {
                return fail(start);
            }
            return true;
        }
    }

    /** One meaning as it is kept: what word each truth has, and what its kind adds. */
    private static final class Meaning {
        final Ints words = new Ints(TRUTH_LIMIT);
        final Ints told = new Ints(TRUTH_LIMIT);
        int kind = MEANING;
        int talk = 0;
        int clear = 100;

        void begin(int newTalk, int newKind, int newClear) {
            words.clear();
            told.clear();
            talk = newTalk;
            kind = newKind;
            clear = newClear;
        }

        void wordsFrom(Shelf row, int truths) {
            for (int t = 0; row != null && t < truths; t++) {
                words.put(t, row.letter(t));
            }
        }

        void wordsBy(int cuts, int truths) {
            for (int t = 1; t < truths; t++) {
                words.put(t, words.get(t - 1) + (cuts >> t - 1 & 1));
            }
        }

        void copyFrom(Meaning other) {
            words.copyFrom(other.words);
            told.copyFrom(other.told);
            kind = other.kind;
            talk = other.talk;
            clear = other.clear;
        }
    }

    /** All talks and meanings, in slots that are made once: what is now, or what the image keeps. */
    private static final class Store {
        private final Talk[] talks = new Talk[TALK_LIMIT];
        private final Meaning[] meanings = new Meaning[MEANING_LIMIT];
        int talkCount = 0;
        int meaningCount = 0;

        Store() {
            for (int i = 0; i < talks.length; i++) {
                talks[i] = new Talk();
            }
            for (int i = 0; i < meanings.length; i++) {
                meanings[i] = new Meaning();
            }
        }

        Talk talkAt(int i) {
            return i >= 0 && i < talkCount && i < talks.length ? talks[i] : null;
        }

        Meaning meaningAt(int i) {
            return i >= 0 && i < meaningCount && i < meanings.length ? meanings[i] : null;
        }

        /** The slot of the next talk; null when all are taken. */
        Talk nextTalk() {
            return talkCount >= 0 && talkCount < talks.length ? talks[talkCount] : null;
        }

        Meaning nextMeaning() {
            return meaningCount >= 0 && meaningCount < meanings.length ? meanings[meaningCount] : null;
        }

        void copyFrom(Store other) {
            for (int i = 0; i < talks.length && i < other.talks.length; i++) {
                talks[i].copyFrom(other.talks[i]);
            }
            for (int i = 0; i < meanings.length && i < other.meanings.length; i++) {
                meanings[i].copyFrom(other.meanings[i]);
            }
            talkCount = other.talkCount;
            meaningCount = other.meaningCount;
        }
    }

    /** A meaning at work: a talk, the word of each truth and the act of each word. Used again for each look. */
    private static final class Reading {
        private final Ints words = new Ints(TRUTH_LIMIT);
        private final Ints acts = new Ints(TRUTH_LIMIT);
        /** By word: the sum of the chances of its truths, and of chance times what the hearer likes there. */
        private final Ints chances = new Ints(TRUTH_LIMIT);
        private final Ints liked = new Ints(TRUTH_LIMIT);
        private int allChances = 0;
        private int allLiked = 0;
        private Talk talk = new Talk();
        private int lean = 0;
        private int wish = 0;
        private int used = 0;
        private int usedCount = 0;
        private boolean blurred = false;
        private boolean told = false;
        private int clear = 100;
        private int drawn = 0;

        /** Lean and wish come apart from the talk, since the second one has his own. */
        void take(Talk newTalk, int newLean, int newWish) {
            talk = newTalk;
            lean = newLean;
            wish = newWish;
            blurred = false;
            told = false;
            clear = 100;
            silence();
        }

        void blur(int newClear) {
            blurred = true;
            clear = newClear;
        }

        private void silence() {
            used = 0;
            usedCount = 0;
        }

        void put(int truth, int word) {
            words.put(truth, word);
            if (!isUsed(word)) {
                used |= 1 << word;
                usedCount++;
            }
        }

        void putParts(int cuts) {
            silence();
            int word = 0;
            for (int t = 0; t < talk.truths; t++) {
                word += t > 0 ? cuts >> t - 1 & 1 : 0;
                put(t, word);
            }
        }

        /** Whether there is such a meaning; if so, it is what is read from now on. */
        boolean open(Store store, int number) {
            Meaning meaning = store.meaningAt(number);
            Talk of = meaning == null ? null : store.talkAt(meaning.talk);
            if (meaning == null || of == null) {
                return false;
            }
            take(of, of.lean, of.wish);
            for (int t = 0; t < of.truths; t++) {
                put(t, meaning.words.get(t));
            }
            if (meaning.kind == BLUR) {
                blur(meaning.clear);
            }
            settle();
            if (meaning.kind == TOLD) {
                told = true;
                acts.copyFrom(meaning.told);
            }
            return true;
        }

        /** Finds the act of each used word. */
        void settle() {
            gather();
            for (int w = 0; w < TRUTH_LIMIT && used >> w != 0; w++) {
                if (isUsed(w)) {
                    acts.put(w, bestAct(w));
                }
            }
        }

        private void gather() {
            chances.clear();
            liked.clear();
            allChances = 0;
            allLiked = 0;
            for (int t = 0; t < talk.truths; t++) {
                int word = words.get(t);
                int chance = talk.chances.get(t);
                int likes = chance * (talk.xs.get(t) + lean);
                chances.put(word, chances.get(word) + chance);
                liked.put(word, liked.get(word) + likes);
                allChances += chance;
                allLiked += likes;
            }
        }

        boolean isUsed(int word) {
            return word >= 0 && word < TRUTH_LIMIT && (used >> word & 1) == 1;
        }

        boolean hasTruth(int truth) {
            return talk.hasTruth(truth);
        }

        int wordOf(int truth) {
            return words.get(truth);
        }

        int actAt(int word) {
            return acts.get(word);
        }

        int truthsAt(int word) {
            int bits = 0;
            for (int t = 0; t < talk.truths; t++) {
                bits |= words.get(t) == word ? 1 << t : 0;
            }
            return bits;
        }

        /** What the truths with a word and all truths together bring to it: a blurred word may stand for any. */
        private long blend(int own, int all) {
            return blurred ? (long) clear * usedCount * own + (100L - clear) * all : own;
        }

        /** DONE at the WEIGHTS of a word, as gathered. */
        int bestAct(int word) {
            long weights = blend(chances.get(word), allChances);
            if (talk.loss == SQUARES) {
                return meanAct(weights, blend(liked.get(word), allLiked));
            }
            return medianAct(word, weights);
        }

        /** One more than a helps only while weights * (2a + 1) is less than 2 * sum. */
        private static int meanAct(long weights, long sum) {
            long twice = 2 * weights;
            return twice == 0 ? 0 : within(-Math.floorDiv(weights - 2 * sum, twice), 0, ACT_LIMIT);
        }

        /** One more than a helps only while less than half of the weights lies at a or below. */
        private int medianAct(int word, long weights) {
            int own = 0;
            int all = 0;
            for (int t = 0; t < talk.truths; t++) {
                int chance = talk.chances.get(t);
                own += words.get(t) == word ? chance : 0;
                all += chance;
                if (2 * blend(own, all) >= weights) {
                    return within(talk.xs.get(t) + lean, 0, ACT_LIMIT);
                }
            }
            return 0;
        }

        /** What one loses at a truth by a word's act who likes the truth's X and a shift. */
        private long lossAt(int truth, int word, int shift) {
            return talk.lossOf(acts.get(word) - talk.xs.get(truth) - shift);
        }

        /** The same by what is said: a blurred word may come as any used one. */
        private long spreadLoss(int truth, int word, int shift) {
            if (!blurred) {
                return lossAt(truth, word, shift);
            }
            long all = 0;
            for (int w = 0; w < TRUTH_LIMIT; w++) {
                all += isUsed(w) ? lossAt(truth, w, shift) : 0;
            }
            return (long) clear * usedCount * lossAt(truth, word, shift) + (100 - clear) * all;
        }

        long regretOf(int truth, int word) {
            return spreadLoss(truth, word, wish);
        }

        /**
         * As much of REGRET as tells one word from another: the rest of a blurred one is the same for all words.
         * (When nothing is clear all acts are alike, and so are these.)
         */
        long dislike(int truth, int word) {
            return lossAt(truth, word, wish);
        }

        long worthFor(int side) {
            int shift = side == 0 ? lean : wish;
            long sum = 0;
            for (int t = 0; t < talk.truths; t++) {
                sum += talk.chances.get(t) * spreadLoss(t, words.get(t), shift);
            }
            return sum;
        }

        /** FAILS, by what the speaker would rather say. */
        int firstLie() {
            for (int t = 0; t < talk.truths; t++) {
                long own = dislike(t, words.get(t));
                for (int w = 0; w < TRUTH_LIMIT && used >> w != 0; w++) {
                    if (isUsed(w) && dislike(t, w) < own) {
                        return 100 * t + w;
                    }
                }
            }
            return NONE;
        }

        int verdict() {
            int lie = firstLie();
            if (lie != NONE || !told) {
                return lie;
            }
            for (int w = 0; w < TRUTH_LIMIT; w++) {
                if (isUsed(w) && heardLoss(w, bestAct(w)) < heardLoss(w, acts.get(w))) {
                    return 10_000 + w;
                }
            }
            return NONE;
        }

        private long heardLoss(int word, int act) {
            long sum = 0;
            for (int t = 0; t < talk.truths; t++) {
                long lost = talk.lossOf(act - talk.xs.get(t) - lean);
                sum += words.get(t) == word ? talk.chances.get(t) * lost : 0;
            }
            return sum;
        }

        /**
         * The greatest wish by which this would hold. Acts don't hang on the wish, and losses grow with the
         * distance: a truth keeps its word as long as what is liked stays on its side of the middle of two acts.
         */
        int greatestWish() {
            int low = 0;
            int high = WISH_LIMIT;
            for (int t = 0; t < talk.truths; t++) {
                int own = acts.get(words.get(t));
                for (int w = 0; w < TRUTH_LIMIT && used >> w != 0; w++) {
                    int twice = own + acts.get(w) - 2 * talk.xs.get(t);
                    if (isUsed(w) && acts.get(w) > own) {
                        high = Math.min(high, Math.floorDiv(twice, 2));
                    } else if (isUsed(w) && acts.get(w) < own) {
                        low = Math.max(low, Math.floorDiv(twice + 1, 2));
                    }
                }
            }
            return low <= high ? high : NONE;
        }

        /** The next way to part the truths: words come up in turn, each new one right above those ahead. */
        boolean nextWay() {
            for (int t = talk.truths - 1; t > 0; t--) {
                int top = 0;
                for (int before = 0; before < t; before++) {
                    top = Math.max(top, words.get(before));
                }
                if (words.get(t) <= top && words.get(t) + 1 < talk.words) {
                    words.put(t, words.get(t) + 1);
                    for (int after = t + 1; after < talk.truths; after++) {
                        words.put(after, 0);
                    }
                    countUsed();
                    return true;
                }
            }
            return false;
        }

        private void countUsed() {
            silence();
            for (int t = 0; t < talk.truths; t++) {
                put(t, words.get(t));
            }
        }

        long drawnLoss(int seed, int times) {
            drawn = seed & LOW_31;
            long sum = 0;
            for (int i = 0; i < times; i++) {
                int truth = drawnTruth(drawBelow(talk.chanceSum()));
                sum += lossAt(truth, heardWord(words.get(truth)), lean);
            }
            return sum;
        }

        private int drawBelow(int end) {
            drawn = drawn * 1_103_515_245 + 12_345 & LOW_31;
            return end > 0 ? (drawn >> 16) % end : 0;
        }

        private int drawnTruth(int lot) {
            int passed = 0;
            for (int t = 0; t < talk.truths; t++) {
                passed += talk.chances.get(t);
                if (lot < passed) {
                    return t;
                }
            }
            return 0;
        }

        private int heardWord(int said) {
            if (!blurred || drawBelow(100) < clear) {
                return said;
            }
            int left = drawBelow(usedCount);
            for (int w = 0; w < TRUTH_LIMIT; w++) {
                if (isUsed(w)) {
                    if (left == 0) {
                        return w;
                    }
                    left--;
                }
            }
            return said;
        }
    }

    /** Goes through what can be said in a talk. */
    private static final class Search {
        private final Reading hearing = new Reading();
        private final Reading beside = new Reading();
        long bestWorth = 0;
        int middleClear = NONE;
        int middleCuts = NONE;

        private boolean stands(int cuts) {
            hearing.putParts(cuts);
            hearing.settle();
            return hearing.firstLie() == NONE;
        }

        int countRuns(Talk talk) {
            hearing.take(talk, talk.lean, talk.wish);
            int count = 0;
            for (int cuts = 0; cuts < talk.cutsEnd(); cuts++) {
                count += talk.allows(cuts) && stands(cuts) ? 1 : 0;
            }
            return count;
        }

        /** A single word always holds, so the search begins with it. */
        int finestCuts(Talk talk, int lean, int wish) {
            hearing.take(talk, lean, wish);
            int finest = 0;
            for (int cuts = 1; cuts < talk.cutsEnd(); cuts++) {
                boolean finer = Integer.bitCount(cuts) > Integer.bitCount(finest);
                if (finer && talk.allows(cuts) && stands(cuts)) {
                    finest = cuts;
                }
            }
            return finest;
        }

        int mostWords(Talk talk, int lean, int wish) {
            return Integer.bitCount(finestCuts(talk, lean, wish)) + 1;
        }

        int bestCuts(Talk talk, int side) {
            hearing.take(talk, talk.lean, talk.wish);
            int best = NONE;
            for (int cuts = 0; cuts < talk.cutsEnd(); cuts++) {
                if (talk.allows(cuts) && stands(cuts)) {
                    long worth = hearing.worthFor(side);
                    if (best == NONE || worth < bestWorth) {
                        best = cuts;
                        bestWorth = worth;
                    }
                }
            }
            return best;
        }

        int countWays(Talk talk) {
            hearing.take(talk, talk.lean, talk.wish);
            hearing.putParts(0);
            int count = 0;
            boolean more = true;
            for (int way = 0; more && way < MOST_WAYS; way++) {
                hearing.settle();
                count += hearing.firstLie() == NONE ? 1 : 0;
                more = hearing.nextWay();
            }
            return count;
        }

        private static boolean isRunOf(Talk talk, int cuts, int k) {
            return Integer.bitCount(cuts) + 1 == k && talk.allows(cuts);
        }

        int edgeOf(Talk talk, int k) {
            hearing.take(talk, talk.lean, talk.wish);
            int edge = NONE;
            for (int cuts = 0; cuts < talk.cutsEnd(); cuts++) {
                if (isRunOf(talk, cuts, k)) {
                    hearing.putParts(cuts);
                    hearing.settle();
                    edge = Math.max(edge, hearing.greatestWish());
                }
            }
            return edge;
        }

        int mostWordsForBoth(Talk talk) {
            hearing.take(talk, talk.lean, talk.wish);
            beside.take(talk, talk.secondLean, talk.secondWish);
            int most = 1;
            for (int cuts = 1; cuts < talk.cutsEnd(); cuts++) {
                int words = Integer.bitCount(cuts) + 1;
                if (words > most && talk.allows(cuts) && standsForBoth(cuts, talk.truths)) {
                    most = words;
                }
            }
            return most;
        }

        private boolean standsForBoth(int cuts, int truths) {
            hearing.putParts(cuts);
            hearing.settle();
            beside.putParts(cuts);
            beside.settle();
            for (int t = 0; t < truths; t++) {
                int word = hearing.wordOf(t);
                long own = hearing.dislike(t, word) + beside.dislike(t, word);
                for (int w = 0; w < TRUTH_LIMIT; w++) {
                    if (hearing.isUsed(w) && hearing.dislike(t, w) + beside.dislike(t, w) < own) {
                        return false;
                    }
                }
            }
            return true;
        }

        /** From the clearest down and the least cuts up: of equal worths the first one found stays. */
        void findMiddleman(Talk talk, int k) {
            middleClear = NONE;
            middleCuts = NONE;
            long least = 0;
            for (int clear = 100; clear >= 0 && k > 0; clear -= 5) {
                hearing.take(talk, talk.lean, talk.wish);
                hearing.blur(clear);
                for (int cuts = 0; cuts < talk.cutsEnd(); cuts++) {
                    if (isRunOf(talk, cuts, k) && stands(cuts)) {
                        long worth = hearing.worthFor(0) / (100L * k);
                        if (middleCuts == NONE || worth < least) {
                            middleClear = clear;
                            middleCuts = cuts;
                            least = worth;
                        }
                    }
                }
            }
        }
    }

    /** The bodies of the acts: a kind's own body runs around the one of the kind above it. */
    private static final class Bodies {
        private final Ints numbers = new Ints(TRACE_LIMIT);
        private int kind = MEANING;
        private int meaning = 0;
        private int talk = 0;
        int ran = 0;

        void forget() {
            ran = 0;
        }

        void begin(int newKind, int newMeaning, int newTalk) {
            forget();
            kind = newKind;
            meaning = newMeaning;
            talk = newTalk;
        }

        private void note(int body) {
            numbers.put(ran, body);
            ran++;
        }

        int kept(int i) {
            return i >= 0 && i < ran && i < TRACE_LIMIT ? numbers.get(i) : NONE;
        }

        int thinking(int x) {
            boolean part = isUnder(kind, PARTS);
            if (part) {
                note(20);
            } else if (kind == TOLD) {
                note(60);
            }
            note(10);
            int above = x + meaning;
            return part ? above * 3 : kind == TOLD ? above ^ 5 : above;
        }

        int saying(int x) {
            if (kind == SILENT) {
                note(30);
            } else if (kind == ALL) {
                note(41);
            }
            note(11);
            int above = thinking(x) * 2;
            return kind == SILENT ? above - meaning : kind == ALL ? -above : above;
        }

        int doing(int x) {
            int given = kind == ALL ? x + 1 : x;
            if (kind == ALL) {
                note(40);
            } else if (kind == BLUR) {
                note(50);
            } else if (kind == TOLD) {
                note(61);
            }
            note(12);
            int above = saying(given) ^ thinking(given - talk);
            return kind == BLUR ? above + talk : kind == TOLD ? above * 2 : above;
        }
    }
}
