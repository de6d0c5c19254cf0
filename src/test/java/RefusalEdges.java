import java.util.ArrayList;
import java.util.EnumMap;
import java.util.List;
import java.util.Map;

/**
 * Each REFUSAL of each promise: its number, the numbers next to those that may be, the order in which REFUSALS are
 * tried, what it leaves as it was (all that can be asked, THE IMAGE too), and how many were counted.
 */
final class RefusalEdges extends Edges {
    private interface Call {
        long on(Counted x);
    }

    private enum World { NEW, MIXED, FULL }

    private static final int NOBODY = 1;
    private static final int OTHER = 2;
    private static final int NOTHING = 3;
    private static final int BELOW = 4;
    private static final int BEYOND = 5;
    private static final int WRONG = 6;
    private static final int CROWDED = 7;

    /** Where things are in the MIXED world. */
    private static final int BYTES = 0;
    private static final int SHORTS = 1;
    private static final int INTS = 2;
    private static final int LONGS = 3;
    private static final int SHOWS_TOLD = 4;
    private static final int EMPTY = 5;
    private static final int FAULTY = 6;
    private static final int SHOWS_PLAIN = 7;
    private static final int TALKS = 3;
    private static final int MEANINGS = 7;
    private static final int TOLD = 5;

    private final Map<World, List<String>> asItWas = new EnumMap<>(World.class);
    private final Map<World, int[]> counted = new EnumMap<>(World.class);

    RefusalEdges(Checks checks, Document document) {
        super(checks, document);
    }

    @Override
    void run() {
        for (World world : World.values()) {
            build(world);
            int[] counts = new int[8];
            for (int why = 1; why <= 7; why++) {
                counts[why] = x.status(10 + why);
            }
            counted.put(world, counts);
            asItWas.put(world, asked());
        }
        shelves();
        talks();
        meanings();
        meaningsAsked();
        sayings();
        others();
        everyKindOfRefusal();
        everyKindIsCounted();
    }

    // ---- the worlds ----

    private void build(World world) {
        fresh();
        if (world == World.MIXED) {
            buildMixed();
        } else if (world == World.FULL) {
            buildFull();
        }
    }

    private void buildMixed() {
        letters(FAULTY, 0, "so 1,2,3,4,5,6,7;words 2");
        letters(BYTES, 0, "so 3*2,7,20;wish 2;two 4 -5");
        x.talk(BYTES);
        x.talk(FAULTY);
        letters(FAULTY, 0, "so 9");
        x.talk(FAULTY);
        words(SHORTS, 0, 1, 1, 7);
        x.row(INTS, 2, 3);
        x.set(INTS, 1, -5);
        x.row(LONGS, 3, 2);
        x.set(LONGS, 0, (1L << 32) + 1);
        for (int kind = 0; kind < 6; kind++) {
            x.meaning(0, kind, SHORTS, kind == 2 ? 35 : 1);
        }
        x.tell(TOLD, 0, 5);
        x.tell(TOLD, 11, 9);
        x.image();
        x.tell(TOLD, 0, 6);
        x.change(0, 0, 6);
        x.change(1, 1, 3);
        x.chance(0, 1, 50);
        x.meaning(2, 3, 0, 0);
        x.show(SHOWS_TOLD, TOLD);
        x.show(SHOWS_PLAIN, 0);
        letters(FAULTY, 0, "so!");
        x.talk(FAULTY);
        x.act(4, 2, 7);
    }

    private void buildFull() {
        letters(0, 0, "so 1,2;words 1");
        for (int t = 0; t < 8; t++) {
            x.talk(0);
        }
        words(1, 0, 0);
        for (int m = 0; m < 12; m++) {
            x.meaning(m % 8, m % 4, 1, 0);
        }
        words(2, 0);
        words(3, 0, 1);
        x.show(4, 11);
        x.act(3, 1, 7);
    }

    private void note(List<String> asked, long got) {
        asked.add(x.last() + " = " + got);
    }

    /** All that can be asked of an object, also behind a restore(). */
    private List<String> asked() {
        List<String> asked = new ArrayList<>();
        for (int s = 0; s < 8; s++) {
            int holds = x.holds(s);
            note(asked, holds);
            for (int i = 0; holds >= 100 && i < (s == BYTES ? 28 : 5); i++) {
                note(asked, x.element(s, i));
            }
        }
        note(asked, x.fault());
        for (int i = 0; i < 9; i++) {
            note(asked, x.trace(i));
        }
        askStore(asked);
        note(asked, x.restore());
        note(asked, x.holds(SHOWS_TOLD));
        askStore(asked);
        return asked;
    }

    private void askStore(List<String> asked) {
        for (int what = 0; what < 4; what++) {
            note(asked, x.status(what));
        }
        int talks = x.status(0);
        for (int t = 0; t < talks; t++) {
            for (int what = 0; what < 8 && talks < 8; what++) {
                note(asked, x.talkOf(t, what));
            }
            note(asked, x.truth(t, 0, 0));
            note(asked, x.truth(t, 0, 1));
            note(asked, x.truth(t, 1, 1));
            note(asked, x.truth(t, 2, 1));
        }
        int meanings = x.status(1);
        for (int m = 0; m < meanings; m++) {
            note(asked, x.meaningOf(m, 0));
            note(asked, x.meaningOf(m, 1));
            note(asked, x.meaningOf(m, 3));
            note(asked, x.word(m, 0));
            note(asked, x.word(m, 1));
        }
        if (talks == TALKS) {
            note(asked, x.worth(2, 1));
            for (int word = 0; word < 12; word++) {
                note(asked, x.tell(TOLD, word, 0));
            }
        }
    }

    // ---- one refusal ----

    private void refused(World world, int why, long answer, Call call) {
        build(world);
        due(call.on(x), answer);
        String told = x.last();
        int[] counts = counted.get(world).clone();
        counts[why]++;
        for (int k = 1; k <= 7; k++) {
            due(x.status(10 + k), counts[k]);
        }
        List<String> now = asked();
        List<String> was = asItWas.get(world);
        for (int i = 0; i < was.size(); i++) {
            that(told + " leaves " + was.get(i) + ", not " + now.get(i), was.get(i).equals(now.get(i)));
        }
    }

    private void near(int why, Call call) {
        refused(World.MIXED, why, -why, call);
    }

    private void far(int why, Call call) {
        refused(World.MIXED, why, FAR - why, call);
    }

    private void ten(int why, Call call) {
        refused(World.MIXED, why, -10 - why, call);
    }

    // ---- promises 2 to 8 ----

    private void shelves() {
        row();
        set();
        copyFirst();
        copyThen();
        copyBeyond();
        show();
        says();
    }

    private void row() {
        sentence("Promise 2", "-1;");
        for (int s : off(0, 7)) {
            near(NOBODY, x -> x.row(s, 0, 1));
            near(NOBODY, x -> x.row(s, 4, -1));
            near(NOBODY, x -> x.row(s, 4, 65));
        }
        sentence("Promise 2", "-4;");
        for (int n : new int[] {-1, -2, -64, MIN}) {
            near(BELOW, x -> x.row(BYTES, 0, n));
            near(BELOW, x -> x.row(SHOWS_TOLD, 4, n));
            near(BELOW, x -> x.row(EMPTY, -1, n));
        }
        sentence("Promise 2", "-6 SORT;");
        for (int sort : off(0, 3)) {
            near(WRONG, x -> x.row(BYTES, sort, 64));
            near(WRONG, x -> x.row(SHOWS_TOLD, sort, 65));
            near(WRONG, x -> x.row(EMPTY, sort, 0));
        }
        sentence("Promise 2", "-7 n above 64.");
        for (int n : new int[] {65, 66, 128, 256, 65_536, MAX}) {
            near(CROWDED, x -> x.row(BYTES, 0, n));
            near(CROWDED, x -> x.row(SHOWS_TOLD, 3, n));
            near(CROWDED, x -> x.row(EMPTY, 1, n));
        }
    }

    private void set() {
        sentence("Promise 3", "-1; -2; -3; -5.");
        for (int s : off(0, 7)) {
            near(NOBODY, x -> x.set(s, 0, 9));
            near(NOBODY, x -> x.set(s, -1, 9));
        }
        for (int i : new int[] {0, -1, 64}) {
            near(OTHER, x -> x.set(SHOWS_TOLD, i, 9));
            near(OTHER, x -> x.set(SHOWS_PLAIN, i, 9));
            near(NOTHING, x -> x.set(EMPTY, i, 9));
        }
        int[] sizes = {27, 4, 3, 2};
        for (int s = BYTES; s <= LONGS; s++) {
            int shelf = s;
            for (int i : off(0, sizes[s] - 1)) {
                near(BEYOND, x -> x.set(shelf, i, 9));
            }
            near(BEYOND, x -> x.set(shelf, 63, 9));
            near(BEYOND, x -> x.set(shelf, 64, 9));
        }
    }

    private void copyFirst() {
        sentence("Promise 4", "-1; -2");
        for (int s : off(0, 7)) {
            for (int other : new int[] {BYTES, SHOWS_TOLD, EMPTY, s}) {
                near(NOBODY, x -> x.copy(s, other, 0, 0, 1));
                near(NOBODY, x -> x.copy(other, s, -1, -1, -1));
            }
        }
        for (int other : new int[] {BYTES, LONGS, EMPTY, SHOWS_TOLD, SHOWS_PLAIN}) {
            near(OTHER, x -> x.copy(SHOWS_TOLD, other, 0, 0, 1));
            near(OTHER, x -> x.copy(other, SHOWS_TOLD, 0, 0, 0));
            near(OTHER, x -> x.copy(SHOWS_PLAIN, other, -1, -1, -1));
            near(OTHER, x -> x.copy(other, SHOWS_PLAIN, 0, 0, -1));
        }
    }

    private void copyThen() {
        sentence("Promise 4", "also of two SORTS (when both hold something);");
        for (int p = BYTES; p <= LONGS; p++) {
            for (int q = BYTES; q <= LONGS; q++) {
                int from = p;
                int to = q;
                if (p != q) {
                    near(OTHER, x -> x.copy(from, to, 0, 0, 1));
                    near(OTHER, x -> x.copy(from, to, 0, 0, -1));
                    near(OTHER, x -> x.copy(from, to, -1, 64, 0));
                }
            }
        }
        sentence("Promise 4", "-3 either;");
        for (int s : new int[] {BYTES, SHORTS, INTS, LONGS, EMPTY}) {
            near(NOTHING, x -> x.copy(s, EMPTY, 0, 0, 1));
            near(NOTHING, x -> x.copy(EMPTY, s, 0, 0, 0));
            near(NOTHING, x -> x.copy(EMPTY, s, -1, -1, -1));
            near(NOTHING, x -> x.copy(s, EMPTY, 64, 64, 64));
        }
        sentence("Promise 4", "-4 n;");
        for (int n : new int[] {-1, -2, MIN, MIN + 1}) {
            near(BELOW, x -> x.copy(BYTES, FAULTY, 0, 0, n));
            near(BELOW, x -> x.copy(BYTES, FAULTY, -1, -1, n));
            near(BELOW, x -> x.copy(BYTES, BYTES, 64, 64, n));
        }
    }

    /** From BYTES, 27 letters, to FAULTY, 3 letters. */
    private void copyBeyond() {
        sentence("Promise 4", "-5 i or j below 0, or an end that isn't there.");
        for (int below : new int[] {-1, -2, MIN}) {
            near(BEYOND, x -> x.copy(BYTES, FAULTY, below, 0, 1));
            near(BEYOND, x -> x.copy(BYTES, FAULTY, 0, below, 1));
            near(BEYOND, x -> x.copy(BYTES, FAULTY, below, 0, 0));
            near(BEYOND, x -> x.copy(BYTES, FAULTY, 0, below, 0));
            near(BEYOND, x -> x.copy(BYTES, FAULTY, below, 0, MAX));
            near(BEYOND, x -> x.copy(BYTES, FAULTY, 0, below, MAX));
        }
        int[][] ends = {{27, 0, 1}, {25, 0, 3}, {28, 0, 0}, {0, 3, 1}, {0, 1, 3}, {0, 4, 0}, {0, 0, 4}, {24, 0, 4},
            {MAX, 0, 1}, {0, MAX, 1}, {MAX, 0, MAX}, {0, MAX, MAX}, {1, 0, MAX}, {0, 1, MAX}, {0, 0, MAX},
            {MAX, 0, 0}, {0, MAX, 0}, {63, 0, 1}, {0, 63, 1}};
        for (int[] end : ends) {
            near(BEYOND, x -> x.copy(BYTES, FAULTY, end[0], end[1], end[2]));
        }
        near(BEYOND, x -> x.copy(FAULTY, BYTES, 0, 0, 4));
        near(BEYOND, x -> x.copy(BYTES, BYTES, 1, 0, 27));
        near(BEYOND, x -> x.copy(BYTES, BYTES, 0, 1, 27));
    }

    private void show() {
        sentence("Promise 6", "-1.");
        for (int s : off(0, 7)) {
            near(NOBODY, x -> x.show(s, 0));
            near(NOBODY, x -> x.show(s, NONE));
            near(NOBODY, x -> x.show(s, MEANINGS));
        }
        for (int m : new int[] {-2, MEANINGS, 12, 64, 256, MIN, MAX}) {
            near(NOBODY, x -> x.show(BYTES, m));
            near(NOBODY, x -> x.show(SHOWS_TOLD, m));
            near(NOBODY, x -> x.show(EMPTY, m));
        }
        refused(World.NEW, NOBODY, -1, x -> x.show(0, 0));
        refused(World.FULL, NOBODY, -1, x -> x.show(0, 12));
    }

    private void says() {
        sentence("Promise 8", "-1 SHELF, KIND;");
        for (int s : off(0, 7)) {
            near(NOBODY, x -> x.says(s, 0));
            near(NOBODY, x -> x.says(s, 6));
        }
        for (int kind : off(0, 5)) {
            near(NOBODY, x -> x.says(SHOWS_TOLD, kind));
            near(NOBODY, x -> x.says(BYTES, kind));
            near(NOBODY, x -> x.says(EMPTY, kind));
        }
        for (int k = 0; k < 6; k++) {
            int kind = k;
            sentence("Promise 8", "-2 also a MEANING of another KIND;");
            near(OTHER, x -> x.says(BYTES, kind));
            near(OTHER, x -> x.says(LONGS, kind));
            if (kind != 0) {
                near(OTHER, x -> x.says(SHOWS_PLAIN, kind));
            }
            if (kind != 0 && kind != 5) {
                near(OTHER, x -> x.says(SHOWS_TOLD, kind));
            }
            sentence("Promise 8", "-3.");
            near(NOTHING, x -> x.says(EMPTY, kind));
            refused(World.NEW, NOTHING, -3, x -> x.says(7, kind));
        }
    }

    // ---- promises 9 to 15 ----

    private void talks() {
        talk();
        talkOf();
        truth();
        done();
        change();
        chance();
    }

    private void talk() {
        sentence("Promise 9", "-1; -2; -3; -6 a FAULT; -7.");
        for (int s : off(0, 7)) {
            near(NOBODY, x -> x.talk(s));
            refused(World.FULL, NOBODY, -1, x -> x.talk(s));
        }
        near(OTHER, x -> x.talk(SHOWS_TOLD));
        near(OTHER, x -> x.talk(SHOWS_PLAIN));
        refused(World.FULL, OTHER, -2, x -> x.talk(4));
        near(NOTHING, x -> x.talk(EMPTY));
        refused(World.NEW, NOTHING, -3, x -> x.talk(0));
        refused(World.FULL, NOTHING, -3, x -> x.talk(5));
        near(WRONG, x -> x.talk(FAULTY));
        refused(World.FULL, CROWDED, -7, x -> x.talk(0));
    }

    private void talkOf() {
        sentence("Promise 11", "-2,000,000,005: no such one, another what.");
        for (int t : off(0, TALKS - 1)) {
            far(BEYOND, x -> x.talkOf(t, 0));
            far(BEYOND, x -> x.talkOf(t, 8));
        }
        for (int what : off(0, 7)) {
            far(BEYOND, x -> x.talkOf(0, what));
        }
        refused(World.NEW, BEYOND, FAR - 5, x -> x.talkOf(0, 0));
        refused(World.FULL, BEYOND, FAR - 5, x -> x.talkOf(8, 0));
    }

    private void truth() {
        sentence("Promise 12", "-5: no such ones, another what.");
        for (int t : off(0, TALKS - 1)) {
            near(BEYOND, x -> x.truth(t, 0, 0));
        }
        for (int truth : off(0, 2)) {
            near(BEYOND, x -> x.truth(0, truth, 0));
            near(BEYOND, x -> x.truth(0, truth, 1));
        }
        near(BEYOND, x -> x.truth(2, 1, 0));
        near(BEYOND, x -> x.truth(1, 7, 0));
        for (int what : off(0, 1)) {
            near(BEYOND, x -> x.truth(0, 2, what));
        }
        refused(World.NEW, BEYOND, -5, x -> x.truth(0, 0, 0));
    }

    private void done() {
        sentence("Promise 13", "-1 TALK, a TRUTH;");
        for (int t : off(0, TALKS - 1)) {
            near(NOBODY, x -> x.done(t, 1));
            near(NOBODY, x -> x.done(t, 0));
        }
        for (int set : new int[] {8, 9, 15, 16, 256, 65_536, 1 << 30, MAX, MIN, MIN + 1, -1, -8}) {
            near(NOBODY, x -> x.done(0, set));
        }
        near(NOBODY, x -> x.done(2, 2));
        near(NOBODY, x -> x.done(1, 128));
        refused(World.NEW, NOBODY, -1, x -> x.done(0, 1));
        sentence("Promise 13", "-6 an empty set.");
        near(WRONG, x -> x.done(0, 0));
        near(WRONG, x -> x.done(2, 0));
    }

    private void change() {
        sentence("Promise 14", "-2,000,000,001 TALK;");
        for (int t : off(0, TALKS - 1)) {
            far(NOBODY, x -> x.change(t, 0, 1));
            far(NOBODY, x -> x.change(t, 2, 1));
            far(NOBODY, x -> x.change(t, 1, 501));
        }
        refused(World.NEW, NOBODY, FAR - 1, x -> x.change(0, 0, 0));
        sentence("Promise 14", "-2,000,000,006 what, v.");
        for (int what : off(0, 1)) {
            far(WRONG, x -> x.change(0, what, 1));
            far(WRONG, x -> x.change(0, what, 501));
        }
        for (int v : off(-500, 500)) {
            far(WRONG, x -> x.change(0, 0, v));
            far(WRONG, x -> x.change(0, 1, v));
        }
    }

    private void chance() {
        sentence("Promise 15", "-1; -6.");
        for (int t : off(0, TALKS - 1)) {
            near(NOBODY, x -> x.chance(t, 0, 5));
            near(NOBODY, x -> x.chance(t, 0, 0));
        }
        for (int truth : off(0, 2)) {
            near(NOBODY, x -> x.chance(0, truth, 5));
            near(NOBODY, x -> x.chance(0, truth, 100));
        }
        near(NOBODY, x -> x.chance(2, 1, 5));
        refused(World.NEW, NOBODY, -1, x -> x.chance(0, 0, 5));
        for (int v : off(1, 99)) {
            near(WRONG, x -> x.chance(0, 0, v));
            near(WRONG, x -> x.chance(0, 2, v));
        }
    }

    // ---- promises 16 to 25 ----

    private void meanings() {
        meaningOfNobody();
        meaningByRow();
        meaningByNumber();
        meaningCrowded();
        tell();
    }

    private void meaningOfNobody() {
        sentence("Promise 16", "-1 TALK, KIND, of 0, 2, 5 SHELF;");
        for (int t : off(0, TALKS - 1)) {
            near(NOBODY, x -> x.meaning(t, 0, SHORTS, 0));
            near(NOBODY, x -> x.meaning(t, 1, SHORTS, -1));
            near(NOBODY, x -> x.meaning(t, 0, SHOWS_TOLD, 0));
            near(NOBODY, x -> x.meaning(t, 2, EMPTY, 101));
        }
        for (int t : off(0, 7)) {
            refused(World.FULL, NOBODY, -1, x -> x.meaning(t, 3, 1, 0));
        }
        for (int kind : off(0, 5)) {
            near(NOBODY, x -> x.meaning(0, kind, SHORTS, 0));
            near(NOBODY, x -> x.meaning(0, kind, SHOWS_TOLD, -1));
            near(NOBODY, x -> x.meaning(0, kind, EMPTY, 0));
            refused(World.FULL, NOBODY, -1, x -> x.meaning(0, kind, 1, 0));
        }
        for (int kind : new int[] {0, 2, 5}) {
            for (int s : off(0, 7)) {
                near(NOBODY, x -> x.meaning(0, kind, s, 0));
                near(NOBODY, x -> x.meaning(0, kind, s, -1));
                refused(World.FULL, NOBODY, -1, x -> x.meaning(0, kind, s, 101));
            }
        }
        refused(World.NEW, NOBODY, -1, x -> x.meaning(0, 3, 0, 0));
    }

    private void meaningByRow() {
        for (int kind : new int[] {0, 2, 5}) {
            for (int more : new int[] {0, -1, 101}) {
                sentence("Promise 16", "-2; -3;");
                near(OTHER, x -> x.meaning(0, kind, SHOWS_TOLD, more));
                near(OTHER, x -> x.meaning(2, kind, SHOWS_PLAIN, more));
                refused(World.FULL, OTHER, -2, x -> x.meaning(0, kind, 4, more));
                near(NOTHING, x -> x.meaning(0, kind, EMPTY, more));
                refused(World.FULL, NOTHING, -3, x -> x.meaning(0, kind, 5, more));
                sentence("Promise 16", "-5 fewer elements than TRUTHS;");
                near(BEYOND, x -> x.meaning(0, kind, LONGS, more));
                near(BEYOND, x -> x.meaning(1, kind, SHORTS, more));
                refused(World.FULL, BEYOND, -5, x -> x.meaning(0, kind, 2, more));
                sentence("Promise 16", "-6 a word that may not be,");
                near(WRONG, x -> x.meaning(0, kind, BYTES, more));
                near(WRONG, x -> x.meaning(0, kind, INTS, more));
                refused(World.FULL, WRONG, -6, x -> x.meaning(0, kind, 3, more));
            }
        }
    }

    private void meaningByNumber() {
        sentence("Promise 16", "CLEAR,");
        for (int clear : off(0, 100)) {
            near(WRONG, x -> x.meaning(0, 2, SHORTS, clear));
            refused(World.FULL, WRONG, -6, x -> x.meaning(0, 2, 1, clear));
        }
        sentence("Promise 16", "CUTS (also more words than WORDS; of ALL, too);");
        for (int cuts : off(0, 3)) {
            near(WRONG, x -> x.meaning(0, 1, SHORTS, cuts));
            refused(World.FULL, WRONG, -6, x -> x.meaning(0, 1, 1, cuts));
        }
        near(WRONG, x -> x.meaning(2, 1, SHORTS, 1));
        near(WRONG, x -> x.meaning(1, 1, SHORTS, 3));
        near(WRONG, x -> x.meaning(1, 1, SHORTS, 63));
        near(WRONG, x -> x.meaning(1, 4, SHORTS, 0));
        refused(World.FULL, WRONG, -6, x -> x.meaning(0, 1, 1, 1));
        refused(World.FULL, WRONG, -6, x -> x.meaning(0, 4, 1, 0));
    }

    private void meaningCrowded() {
        sentence("Promise 16", "-7.");
        for (int kind : new int[] {0, 1, 2, 3, 5}) {
            refused(World.FULL, CROWDED, -7, x -> x.meaning(7, kind, 1, 0));
        }
    }

    private void tell() {
        sentence("Promise 17", "-1; -2; -6.");
        for (int m : off(0, MEANINGS - 1)) {
            near(NOBODY, x -> x.tell(m, 0, 5));
            near(NOBODY, x -> x.tell(m, 12, 5));
            near(NOBODY, x -> x.tell(m, 0, 1000));
        }
        refused(World.NEW, NOBODY, -1, x -> x.tell(0, 0, 0));
        for (int other : new int[] {0, 1, 2, 3, 4, 6}) {
            near(OTHER, x -> x.tell(other, 0, 5));
            near(OTHER, x -> x.tell(other, 12, 5));
            near(OTHER, x -> x.tell(other, 0, -1));
        }
        for (int word : off(0, 11)) {
            near(WRONG, x -> x.tell(TOLD, word, 5));
        }
        for (int v : off(0, 999)) {
            near(WRONG, x -> x.tell(TOLD, 0, v));
            near(WRONG, x -> x.tell(TOLD, 11, v));
        }
    }

    private void meaningsAsked() {
        meaningOf();
        thought();
        judge();
        regret();
        worth();
        beside();
    }

    private void meaningOf() {
        sentence("Promise 18", "-5: no such one, another what.");
        for (int m : off(0, MEANINGS - 1)) {
            near(BEYOND, x -> x.meaningOf(m, 0));
            near(BEYOND, x -> x.meaningOf(m, 4));
        }
        for (int what : off(0, 3)) {
            near(BEYOND, x -> x.meaningOf(0, what));
        }
        refused(World.NEW, BEYOND, -5, x -> x.meaningOf(0, 0));
        refused(World.FULL, BEYOND, -5, x -> x.meaningOf(12, 0));
        sentence("Promise 19", "-5: no such ones.");
        for (int m : off(0, MEANINGS - 1)) {
            near(BEYOND, x -> x.word(m, 0));
        }
        for (int truth : off(0, 2)) {
            near(BEYOND, x -> x.word(0, truth));
        }
        near(BEYOND, x -> x.word(6, 1));
        refused(World.NEW, BEYOND, -5, x -> x.word(0, 0));
    }

    /** Words 0 and 1 are used; numbers that end in the same bits aren't. */
    private void thought() {
        int[] unused = {2, 3, 11, 12, 31, 32, 33, 64, 65, 256, -1, -31, -32, MIN, MIN + 1, MAX};
        sentence("Promise 20", "-5: no such MEANING, the word isn't USED.");
        for (int word : unused) {
            near(BEYOND, x -> x.thought(0, word));
            near(BEYOND, x -> x.thought(TOLD, word));
        }
        for (int m : off(0, MEANINGS - 1)) {
            near(BEYOND, x -> x.thought(m, 0));
        }
        near(BEYOND, x -> x.thought(6, 1));
        refused(World.NEW, BEYOND, -5, x -> x.thought(0, 0));
        sentence("Promise 21", "-5: as thought().");
        for (int word : unused) {
            near(BEYOND, x -> x.does(0, word));
            near(BEYOND, x -> x.does(TOLD, word));
        }
        for (int m : off(0, MEANINGS - 1)) {
            near(BEYOND, x -> x.does(m, 0));
        }
        near(BEYOND, x -> x.does(6, 1));
        refused(World.NEW, BEYOND, -5, x -> x.does(0, 0));
    }

    private void judge() {
        sentence("Promise 22", "-5: no such one.");
        for (int m : off(0, MEANINGS - 1)) {
            near(BEYOND, x -> x.judge(m));
        }
        refused(World.NEW, BEYOND, -5, x -> x.judge(0));
        refused(World.FULL, BEYOND, -5, x -> x.judge(12));
    }

    private void regret() {
        sentence("Promise 23", "-5: no such ones, the word isn't USED.");
        for (int m : off(0, MEANINGS - 1)) {
            far(BEYOND, x -> x.regret(m, 0, 0));
        }
        for (int truth : off(0, 2)) {
            far(BEYOND, x -> x.regret(0, truth, 0));
        }
        for (int word : new int[] {2, 11, 12, 32, 33, -1, -32, MIN, MAX}) {
            far(BEYOND, x -> x.regret(0, 0, word));
            far(BEYOND, x -> x.regret(2, 0, word));
        }
        refused(World.NEW, BEYOND, FAR - 5, x -> x.regret(0, 0, 0));
    }

    private void worth() {
        sentence("Promise 24", "-5: no such one, another what.");
        for (int m : off(0, MEANINGS - 1)) {
            far(BEYOND, x -> x.worth(m, 0));
            far(BEYOND, x -> x.worth(m, 2));
        }
        for (int what : off(0, 1)) {
            far(BEYOND, x -> x.worth(0, what));
        }
        refused(World.NEW, BEYOND, FAR - 5, x -> x.worth(0, 0));
    }

    private void beside() {
        sentence("Promise 25", "-2,000,000,005: no such ones.");
        for (int t : off(0, TALKS - 1)) {
            far(BEYOND, x -> x.beside(t, 0));
            far(BEYOND, x -> x.beside(t, 2));
        }
        for (int what : off(0, 1)) {
            far(BEYOND, x -> x.beside(0, what));
        }
        refused(World.NEW, BEYOND, FAR - 5, x -> x.beside(0, 0));
    }

    // ---- promises 26 to 34 ----

    private void sayings() {
        ofNoTalk();
        best();
        any();
        edge();
        roomAndDoors();
        middle();
    }

    private void ofNoTalk() {
        for (int t : off(0, TALKS - 1)) {
            sentence("Promise 26", "-1.");
            near(NOBODY, x -> x.runs(t));
            sentence("Promise 27", "-1.");
            near(NOBODY, x -> x.finest(t));
            sentence("Promise 28", "-1.");
            near(NOBODY, x -> x.bound(t));
            sentence("Promise 36", "-1.");
            near(NOBODY, x -> x.bestEnds(t));
            sentence("Promise 37", "-1.");
            near(NOBODY, x -> x.leave(t));
        }
        refused(World.NEW, NOBODY, -1, x -> x.runs(0));
        refused(World.NEW, NOBODY, -1, x -> x.finest(0));
        refused(World.NEW, NOBODY, -1, x -> x.bound(0));
        refused(World.NEW, NOBODY, -1, x -> x.bestEnds(0));
        refused(World.NEW, NOBODY, -1, x -> x.leave(0));
    }

    private void best() {
        sentence("Promise 29", "-1 TALK;");
        for (int t : off(0, TALKS - 1)) {
            near(NOBODY, x -> x.best(t, 0));
            near(NOBODY, x -> x.best(t, 2));
        }
        refused(World.NEW, NOBODY, -1, x -> x.best(0, 2));
        sentence("Promise 29", "-6 side.");
        for (int side : off(0, 1)) {
            near(WRONG, x -> x.best(0, side));
        }
    }

    private void any() {
        sentence("Promise 30", "-1;");
        for (int t : off(0, TALKS - 1)) {
            near(NOBODY, x -> x.any(t));
        }
        refused(World.NEW, NOBODY, -1, x -> x.any(0));
        sentence("Promise 30", "-6 more than 6 TRUTHS.");
        near(WRONG, x -> x.any(1));
    }

    private void edge() {
        sentence("Promise 31", "-11 TALK;");
        for (int t : off(0, TALKS - 1)) {
            ten(NOBODY, x -> x.edge(t, 1));
            ten(NOBODY, x -> x.edge(t, 0));
        }
        refused(World.NEW, NOBODY, -11, x -> x.edge(0, 13));
        sentence("Promise 31", "-16 k not 1 to 12");
        for (int k : off(1, 12)) {
            ten(WRONG, x -> x.edge(0, k));
        }
        sentence("Promise 31", "(REFUSALS -1, -6 that are counted).");
        ten(NOBODY, x -> x.edge(TALKS, 13));
        ten(WRONG, x -> x.edge(0, 13));
    }

    private void roomAndDoors() {
        sentence("Promise 32", "-1; -6 there is no SECOND.");
        for (int t : off(0, TALKS - 1)) {
            near(NOBODY, x -> x.room(t));
        }
        refused(World.NEW, NOBODY, -1, x -> x.room(0));
        near(WRONG, x -> x.room(1));
        near(WRONG, x -> x.room(2));
        sentence("Promise 33", "-1; -6 there is no SECOND.");
        for (int t : off(0, TALKS - 1)) {
            near(NOBODY, x -> x.doors(t));
        }
        refused(World.NEW, NOBODY, -1, x -> x.doors(0));
        near(WRONG, x -> x.doors(1));
        near(WRONG, x -> x.doors(2));
    }

    private void middle() {
        sentence("Promise 34", "-11 TALK;");
        for (int t : off(0, TALKS - 1)) {
            ten(NOBODY, x -> x.middle(t, 1, 0));
            ten(NOBODY, x -> x.middle(t, 13, 0));
            ten(NOBODY, x -> x.middle(t, 1, 2));
        }
        refused(World.NEW, NOBODY, -11, x -> x.middle(0, 0, 0));
        sentence("Promise 34", "-16 k, what.");
        for (int k : off(1, 12)) {
            ten(WRONG, x -> x.middle(0, k, 0));
            ten(WRONG, x -> x.middle(0, k, 2));
        }
        for (int what : off(0, 1)) {
            ten(WRONG, x -> x.middle(0, 1, what));
        }
    }

    // ---- promises 35 to 45 ----

    private void others() {
        ends();
        agree();
        draw();
        restore();
    }

    private void ends() {
        sentence("Promise 35", "-5: no such TALK, ENDS not 0 to 999, A above B.");
        for (int t : off(0, TALKS - 1)) {
            far(BEYOND, x -> x.ends(t, 0, 0));
        }
        for (int end : off(0, 999)) {
            far(BEYOND, x -> x.ends(0, end, 999));
            far(BEYOND, x -> x.ends(0, 0, end));
            far(BEYOND, x -> x.ends(0, end, end));
        }
        far(BEYOND, x -> x.ends(0, 1, 0));
        far(BEYOND, x -> x.ends(0, 999, 998));
        far(BEYOND, x -> x.ends(0, 999, 0));
        refused(World.NEW, BEYOND, FAR - 5, x -> x.ends(0, 0, 0));
    }

    private void agree() {
        sentence("Promise 38", "-11 TALK;");
        for (int t : off(0, TALKS - 1)) {
            ten(NOBODY, x -> x.agree(t, 0));
            ten(NOBODY, x -> x.agree(t, 501));
        }
        refused(World.NEW, NOBODY, -11, x -> x.agree(0, 0));
        sentence("Promise 38", "-16 WISH.");
        for (int wish : off(-500, 500)) {
            ten(WRONG, x -> x.agree(0, wish));
            ten(WRONG, x -> x.agree(2, wish));
        }
    }

    private void draw() {
        sentence("Promise 40", "-5: no such one, n.");
        for (int m : off(0, MEANINGS - 1)) {
            far(BEYOND, x -> x.draw(m, 1, 1));
            far(BEYOND, x -> x.draw(m, 1, 0));
        }
        for (int n : off(1, 200)) {
            far(BEYOND, x -> x.draw(0, 1, n));
        }
        refused(World.NEW, BEYOND, FAR - 5, x -> x.draw(0, 1, 1));
    }

    private void restore() {
        sentence("Promise 44", "-6 there is none.");
        refused(World.NEW, WRONG, -6, x -> x.restore());
        refused(World.FULL, WRONG, -6, x -> x.restore());
    }

    // ---- what REFUSALS are ----

    private void everyKindOfRefusal() {
        sentence("REFUSALS", "-1 NOBODY: no such SHELF, TALK, TRUTH, MEANING, KIND.");
        near(NOBODY, x -> x.talk(8));
        near(NOBODY, x -> x.runs(TALKS));
        near(NOBODY, x -> x.chance(0, 3, 1));
        near(NOBODY, x -> x.show(0, MEANINGS));
        near(NOBODY, x -> x.says(SHOWS_TOLD, 6));
        sentence("REFUSALS", "-2 OTHER: a SHELF that holds a MEANING where a ROW is wanted, or the other way about, "
            + "ROWS of two SORTS, a MEANING that isn't of the KIND wanted, or one under it.");
        near(OTHER, x -> x.talk(SHOWS_TOLD));
        near(OTHER, x -> x.says(BYTES, 0));
        near(OTHER, x -> x.copy(BYTES, SHORTS, 0, 0, 1));
        near(OTHER, x -> x.tell(4, 0, 1));
        sentence("REFUSALS", "-3 NOTHING: a SHELF that holds NOTHING.");
        near(NOTHING, x -> x.talk(EMPTY));
        sentence("REFUSALS", "-4 BELOW: a size below 0.");
        near(BELOW, x -> x.row(EMPTY, 0, -1));
        sentence("REFUSALS", "-5 BEYOND: an element that isn't there; nothing such to be told of.");
        near(BEYOND, x -> x.set(SHORTS, 4, 0));
        near(BEYOND, x -> x.word(MEANINGS, 0));
        sentence("REFUSALS", "-6 WRONG: a number that may not be, a FAULT, what can't be as things stand.");
        near(WRONG, x -> x.best(0, 2));
        near(WRONG, x -> x.talk(FAULTY));
        near(WRONG, x -> x.room(1));
        sentence("REFUSALS", "-7 ROOM: more than may be.");
        near(CROWDED, x -> x.row(EMPTY, 0, 65));
        refused(World.FULL, CROWDED, -7, x -> x.talk(0));
        refused(World.FULL, CROWDED, -7, x -> x.meaning(0, 3, 0, 0));
        sentence("REFUSALS", "Those that answer a long or a number that may be below 0 answer -2,000,000,000 and "
            + "the number instead.");
        far(BEYOND, x -> x.talkOf(TALKS, 0));
        far(NOBODY, x -> x.change(TALKS, 0, 0));
        far(BEYOND, x -> x.regret(MEANINGS, 0, 0));
        far(BEYOND, x -> x.worth(MEANINGS, 0));
        far(BEYOND, x -> x.beside(TALKS, 0));
        far(BEYOND, x -> x.ends(TALKS, 0, 0));
        far(BEYOND, x -> x.draw(MEANINGS, 0, 1));
    }

    // ---- how many there were ----

    private void everyKindIsCounted() {
        sentence("Promise 45", "11 to 17: REFUSALS -1 to -7.");
        freshTalk("so 1");
        x.meaning(0, 3, 0, 0);
        x.show(1, 0);
        for (int i = 1; i <= 60; i++) {
            due(x.row(8, 0, 1), -1);
            due(x.set(1, 0, 1), -2);
            due(x.set(0, 0, 1), -3);
            due(x.row(0, 0, -1), -4);
            due(x.truth(0, 1, 0), -5);
            due(x.row(0, 4, 1), -6);
            due(x.row(0, 0, 65), -7);
        }
        refusals(60, 60, 60, 60, 60, 60, 60);
        fresh();
        for (int i = 1; i <= 300; i++) {
            due(x.word(0, 0), -5);
        }
        refusals(0, 0, 0, 0, 300);
        sentence("REFUSALS", "(the call answers the number; nothing changes but how many there were; "
            + "the first that fits, in this order)");
        due(x.row(8, 4, -1), -1);
        due(x.row(0, 4, -1), -4);
        due(x.row(0, 4, 65), -6);
        refusals(1, 0, 0, 1, 300, 1);
    }
}
