/** Boundary cases of SHELVES: promises 1 to 8. */
final class ShelfEdges extends Edges {
    ShelfEdges(Checks checks, Document document) {
        super(checks, document);
    }

    @Override
    void run() {
        newObject();
        objectsApart();
        shelves();
        rows();
        lowestBits();
        set();
        copy();
        copyAsAhead();
        element();
        show();
        holds();
        says();
        saysEdges();
    }

    private void newObject() {
        sentence("Promise 1", "No TALKS, no MEANINGS.");
        fresh();
        for (int what = 0; what < 4; what++) {
            due(x.status(what), 0);
        }
        due(x.still(), 0);
        due(x.fault(), NONE);
        due(x.trace(0), NONE);
        refusals();
        due(x.talkOf(0, 0), FAR - 5);
        due(x.runs(0), -1);
        due(x.meaningOf(0, 0), -5);
        due(x.show(0, 0), -1);
        due(x.act(0, 0, 5), 0);
        due(x.restore(), -6);
        due(x.image(), 0);
        due(x.restore(), 0);
    }

    private void objectsApart() {
        freshTalk("so 1");
        x.meaning(0, 3, 0, 0);
        x.image();
        x.act(0, 0, 1);
        x.talk(6);
        fresh();
        for (int what = 0; what < 4; what++) {
            due(x.status(what), 0);
        }
        due(x.holds(7), NONE);
        due(x.trace(0), NONE);
        due(x.restore(), -6);
        refusals(0, 0, 0, 0, 0, 1);
    }

    private void shelves() {
        sentence("MEANINGS", "SHELVES 0 to 7 hold NOTHING (at first), a ROW, or a MEANING.");
        fresh();
        for (int s = 0; s < 8; s++) {
            due(x.holds(s), NONE);
            due(x.row(s, s % 4, s), 1);
        }
        talk("so 1");
        x.meaning(0, 3, 0, 0);
        for (int s = 0; s < 7; s++) {
            due(x.holds(s), 100 + s % 4);
            due(x.show(s, 0), 1);
            due(x.holds(s), 0);
            due(x.show(s, NONE), 0);
            due(x.holds(s), NONE);
        }
        due(x.row(-1, 0, 1), -1);
        due(x.row(8, 0, 1), -1);
        due(x.holds(7), 100);
    }

    private void rows() {
        sentence("MEANINGS", "A ROW has a SORT (0 bytes, 1 shorts, 2 ints, 3 longs) and 0 to 64 elements, 0 at first;");
        fresh();
        for (int sort = 0; sort < 4; sort++) {
            due(x.row(sort, sort, 0), 1);
            due(x.holds(sort), 100 + sort);
            due(x.set(sort, 0, 1), -5);
            due(x.row(sort, sort, 64), 1);
            due(x.set(sort, 64, 1), -5);
            due(x.set(sort, 63, 1), 1);
            due(x.element(sort, 63), 1);
        }
        for (int i = 0; i < 63; i++) {
            due(x.element(0, i), 0);
            due(x.element(3, i), 0);
        }
        refusals(0, 0, 0, 0, 8);
        sentence("Promise 2", "SHELF s holds a new ROW: 1.");
        fresh();
        for (int s = 0; s < 8; s += 7) {
            letters(s, 3, "abc");
            due(x.row(s, 3, 3), 1);
            due(x.element(s, 0) + x.element(s, 1) + x.element(s, 2), 0);
            letters(s, 0, "abc");
            due(x.row(s, 1, 2), 1);
            due(x.holds(s), 101);
            due(x.set(s, 2, 1), -5);
            due(x.row(s, 1, 64), 1);
            due(x.element(s, 2), 0);
        }
        talk("so 1");
        x.meaning(0, 3, 0, 0);
        x.show(4, 0);
        due(x.row(4, 2, 1), 1);
        due(x.holds(4), 102);
        due(x.set(4, 0, -7), 1);
        due(x.element(4, 0), -7);
    }

    private void kept(int sort, long put, long want) {
        due(x.set(sort, 1, put), 1);
        due(x.element(sort, 1), want);
    }

    private void lowestBits() {
        sentence("MEANINGS", "what is put in keeps its lowest bits.");
        fresh();
        for (int sort = 0; sort < 4; sort++) {
            x.row(sort, sort, 3);
        }
        long[][] bytes = {{127, 127}, {128, -128}, {255, -1}, {256, 0}, {257, 1}, {-128, -128}, {-129, 127},
            {Long.MIN_VALUE, 0}, {Long.MAX_VALUE, -1}, {1L << 32, 0}};
        long[][] shorts = {{128, 128}, {32_767, 32_767}, {32_768, -32_768}, {65_535, -1}, {65_536, 0},
            {-32_768, -32_768}, {-32_769, 32_767}, {Long.MIN_VALUE, 0}, {Long.MAX_VALUE, -1}};
        long[][] ints = {{65_536, 65_536}, {MAX, MAX}, {MAX + 1L, MIN}, {(1L << 32) - 1, -1}, {1L << 32, 0},
            {MIN, MIN}, {MIN - 1L, MAX}, {Long.MIN_VALUE, 0}, {Long.MAX_VALUE, -1}};
        long[] longs = {MAX + 1L, MIN - 1L, 1L << 32, Long.MIN_VALUE, Long.MAX_VALUE, -1, 0};
        for (long[] put : bytes) {
            kept(0, put[0], put[1]);
        }
        for (long[] put : shorts) {
            kept(1, put[0], put[1]);
        }
        for (long[] put : ints) {
            kept(2, put[0], put[1]);
        }
        for (long put : longs) {
            kept(3, put, put);
        }
        for (int sort = 0; sort < 4; sort++) {
            due(x.element(sort, 0), 0);
            due(x.element(sort, 2), 0);
        }
        refusals();
    }

    private void set() {
        sentence("Promise 3", "Element i of the ROW becomes v: 1.");
        fresh();
        x.row(0, 0, 3);
        x.row(1, 0, 3);
        due(x.set(0, 0, 5), 1);
        due(x.set(0, 2, 7), 1);
        due(x.set(0, 3, 9), -5);
        due(x.set(0, -1, 9), -5);
        due(x.set(0, 2, 8), 1);
        long[] want = {5, 0, 8};
        for (int i = 0; i < 3; i++) {
            due(x.element(0, i), want[i]);
            due(x.element(1, i), 0);
        }
        x.row(2, 0, 0);
        due(x.set(2, 0, 1), -5);
        refusals(0, 0, 0, 0, 3);
    }

    private void row(int s, String want) {
        for (int i = 0; i < want.length(); i++) {
            due(x.element(s, i), want.charAt(i));
        }
        due(x.element(s, want.length()), 0);
    }

    private void copy() {
        sentence("Promise 4", "Elements i, i + 1, .. of the ROW in SHELF p, n of them, come to elements j, j + 1, .. "
            + "of that in q");
        fresh();
        letters(0, 0, "abcd");
        letters(1, 0, "uvwxyz");
        int[][] empty = {{0, 0}, {4, 0}, {0, 6}, {4, 6}};
        for (int[] at : empty) {
            due(x.copy(0, 1, at[0], at[1], 0), 1);
        }
        row(1, "uvwxyz");
        due(x.copy(0, 1, 0, 2, 4), 1);
        row(1, "uvabcd");
        due(x.copy(0, 1, 3, 0, 1), 1);
        row(1, "dvabcd");
        due(x.copy(1, 0, 5, 3, 1), 1);
        due(x.copy(1, 0, 2, 0, 4), 1);
        row(0, "abcd");
        row(1, "dvabcd");
        refusals();
        copyFull();
        copyNone();
    }

    private void copyFull() {
        fresh();
        for (int sort = 0; sort < 4; sort++) {
            x.row(0, sort, 64);
            x.row(1, sort, 64);
            x.set(0, 0, -1);
            x.set(0, 63, Long.MAX_VALUE - 1);
            due(x.copy(0, 1, 0, 0, 64), 1);
            due(x.element(1, 0), -1);
            due(x.element(1, 63), sort == 3 ? Long.MAX_VALUE - 1 : -2);
            due(x.copy(1, 0, 63, 0, 1), 1);
            due(x.element(0, 0), sort == 3 ? Long.MAX_VALUE - 1 : -2);
            due(x.copy(0, 1, 0, 1, 64), -5);
            due(x.copy(0, 1, 0, 0, 65), -5);
        }
        refusals(0, 0, 0, 0, 8);
    }

    private void copyNone() {
        fresh();
        x.row(0, 2, 0);
        x.row(1, 2, 0);
        due(x.copy(0, 1, 0, 0, 0), 1);
        due(x.copy(0, 0, 0, 0, 0), 1);
        due(x.copy(0, 1, 0, 0, 1), -5);
        due(x.copy(0, 1, 1, 0, 0), -5);
        due(x.copy(0, 1, 0, 1, 0), -5);
        refusals(0, 0, 0, 0, 3);
    }

    private void copyAsAhead() {
        sentence("Promise 4", "(as they were ahead): 1.");
        fresh();
        letters(3, 1, "abcdef");
        due(x.copy(3, 3, 0, 1, 5), 1);
        row(3, "aabcde");
        due(x.copy(3, 3, 1, 0, 5), 1);
        row(3, "abcdee");
        due(x.copy(3, 3, 0, 2, 4), 1);
        row(3, "ababcd");
        due(x.copy(3, 3, 2, 0, 4), 1);
        row(3, "abcdcd");
        due(x.copy(3, 3, 0, 0, 6), 1);
        row(3, "abcdcd");
        due(x.copy(3, 3, 0, 3, 3), 1);
        row(3, "abcabc");
        refusals();
    }

    private void element() {
        sentence("Promise 5", "Element i of the ROW; 0 if there is none (nothing is refused).");
        freshTalk("so 1");
        x.meaning(0, 3, 0, 0);
        x.show(1, 0);
        letters(0, 0, "xyz");
        due(x.element(0, 0), 'x');
        due(x.element(0, 2), 'z');
        x.row(2, 3, 64);
        x.set(2, 63, Long.MIN_VALUE);
        due(x.element(2, 63), Long.MIN_VALUE);
        for (int i : new int[] {3, -1, 63, 64, 65_536, -65_536, MIN, MAX}) {
            due(x.element(0, i), 0);
        }
        for (int i : new int[] {64, -1, 127, MIN, MAX}) {
            due(x.element(2, i), 0);
        }
        for (int s : new int[] {1, 3, -1, 8, 65_536, MIN, MAX}) {
            due(x.element(s, 0), 0);
            due(x.element(s, -1), 0);
        }
        x.row(3, 0, 0);
        due(x.element(3, 0), 0);
        refusals();
    }

    private void show() {
        sentence("Promise 6", "SHELF s holds a MEANING, or NOTHING (meaning NONE): 1, 0.");
        freshTalk("so 1");
        for (int m = 0; m < 12; m++) {
            x.meaning(0, 3, 0, 0);
        }
        for (int s = 0; s < 8; s++) {
            due(x.show(s, 11 - s), 1);
            due(x.holds(s), 11 - s);
        }
        due(x.show(0, 0), 1);
        due(x.holds(0), 0);
        due(x.show(7, 0), 1);
        due(x.show(0, NONE), 0);
        due(x.show(0, NONE), 0);
        due(x.holds(0), NONE);
        due(x.says(0, 0), -3);
        due(x.holds(7), 0);
        letters(0, 0, "ab");
        due(x.show(0, NONE), 0);
        due(x.element(0, 0), 0);
        due(x.set(0, 0, 1), -3);
        letters(0, 0, "ab");
        due(x.show(0, 5), 1);
        due(x.element(0, 0), 0);
        due(x.set(0, 0, 1), -2);
        due(x.status(1), 12);
        refusals(0, 1, 2);
    }

    private void holds() {
        sentence("Promise 7", "What SHELF s holds: NONE NOTHING, or no such SHELF; a MEANING's number; "
            + "100 and the SORT of a ROW.");
        freshTalk("so 1");
        for (int m = 0; m < 12; m++) {
            x.meaning(0, 3, 0, 0);
        }
        for (int s : off(0, 7)) {
            due(x.holds(s), NONE);
        }
        due(x.holds(0), NONE);
        for (int sort = 0; sort < 4; sort++) {
            x.row(0, sort, sort == 1 ? 0 : 64);
            due(x.holds(0), 100 + sort);
        }
        x.show(0, 0);
        due(x.holds(0), 0);
        x.show(0, 11);
        due(x.holds(0), 11);
        refusals();
    }

    private void says() {
        sentence("Promise 8", "What the MEANING in SHELF s, taken for one of a KIND, says: MEANING its TALK; "
            + "PARTS, NOTHING, ALL how many words are USED; BLUR CLEAR; TOLD the ACT told for word 0.");
        fresh();
        letters(7, 0, "so 1,2,3,4");
        for (int t = 0; t < 8; t++) {
            x.talk(7);
        }
        words(0, 11, 0, 11, 0);
        for (int kind = 0; kind < 6; kind++) {
            due(x.meaning(7, kind, 0, kind == 1 ? 5 : 61), kind);
        }
        x.tell(5, 0, 999);
        x.tell(5, 11, 3);
        int[][] says = {
            {7, -2, -2, -2, -2, -2}, {7, 3, -2, -2, -2, -2}, {7, -2, 61, -2, -2, -2},
            {7, 1, -2, 1, -2, -2}, {7, 4, -2, -2, 4, -2}, {7, -2, -2, -2, -2, 999}};
        for (int m = 0; m < 6; m++) {
            x.show(m + 1, m);
            for (int kind = 0; kind < 6; kind++) {
                due(x.says(m + 1, kind), says[m][kind]);
            }
        }
        refusals(0, 23);
    }

    private void saysEdges() {
        fresh();
        due(talk("so 5"), 0);
        due(talk(TWELVE), 1);
        words(0, 3);
        due(x.meaning(0, 2, 0, 0), 0);
        due(x.meaning(0, 2, 0, 100), 1);
        due(x.meaning(0, 5, 0, 0), 2);
        due(x.meaning(1, 1, 0, 0), 3);
        due(x.meaning(1, 1, 0, 2047), 4);
        due(x.meaning(1, 4, 0, 0), 5);
        due(x.meaning(1, 3, 0, 0), 6);
        int[][] says = {{0, 2, 0}, {1, 2, 100}, {2, 5, 0}, {3, 1, 1}, {4, 1, 12}, {5, 1, 12}, {5, 4, 12}, {6, 1, 1},
            {6, 3, 1}, {0, 0, 0}, {6, 0, 1}};
        for (int[] one : says) {
            due(x.show(7, one[0]), 1);
            due(x.says(7, one[1]), one[2]);
        }
        x.tell(2, 0, 8);
        x.show(0, 2);
        due(x.says(0, 5), 8);
        x.tell(2, 3, 9);
        due(x.says(0, 5), 8);
        refusals();
    }
}
