/** Boundary cases of ACTS, THE TRACE, THE IMAGE and what is counted: promises 41 to 45, and the 512 calls. */
final class StateEdges extends Edges {
    private static final int[] XS = {0, 1, -1, 5, MAX, MAX - 1, MIN, MIN + 1, 1 << 30, -(1 << 30), 715_827_883};
    private static final int[] KINDS = {0, 1, 2, 3, 4, 5};
    private static final int[][][] TRACES = {
        {{10}, {11, 10}, {12, 11, 10, 10}},
        {{20, 10}, {11, 20, 10}, {12, 11, 20, 10, 20, 10}},
        {{10}, {11, 10}, {50, 12, 11, 10, 10}},
        {{20, 10}, {30, 11, 20, 10}, {12, 30, 11, 20, 10, 20, 10}},
        {{20, 10}, {41, 11, 20, 10}, {40, 12, 41, 11, 20, 10, 20, 10}},
        {{60, 10}, {11, 60, 10}, {61, 12, 11, 60, 10, 60, 10}}};

    StateEdges(Checks checks, Document document) {
        super(checks, document);
    }

    @Override
    void run() {
        acts();
        noAct();
        trace();
        image();
        imageLeavesOut();
        restore();
        restoreEmpty();
        restoreShelves();
        restoreFull();
        slotsAreNew();
        status();
        mostCalls();
    }

    // ---- ACTS ----

    /** MEANINGS 6 to 11 are of the KINDS 0 to 5, all of TALK 7. */
    private void actingWorld() {
        fresh();
        letters(0, 0, "so 1,2");
        for (int t = 0; t < 8; t++) {
            x.talk(0);
        }
        words(1, 0, 1);
        for (int m = 0; m < 12; m++) {
            due(x.meaning(7, m % 6, 1, 1), m);
        }
    }

    private static int thinks(int kind, int m, int v) {
        int sum = v + m;
        return kind == 1 || kind == 3 || kind == 4 ? sum + sum + sum : kind == 5 ? sum ^ 5 : sum;
    }

    private static int says(int kind, int m, int v) {
        int twice = thinks(kind, m, v) + thinks(kind, m, v);
        return kind == 3 ? twice - m : kind == 4 ? -twice : twice;
    }

    private static int does(int kind, int m, int k, int v) {
        int given = kind == 4 ? v + 1 : v;
        int both = says(kind, m, given) ^ thinks(kind, m, given - k);
        return kind == 2 ? both + k : kind == 5 ? both + both : both;
    }

    private void acts() {
        sentence("Promise 41", "An ACT of a MEANING with x.");
        sentence("WHAT CAN BE SAID", "ACTS of MEANINGS, with x (wrapping): 0 thinks, 1 says, 2 does; m its number, k its "
            + "TALK.");
        sentence("WHAT CAN BE SAID", "BODIES, each with its number: MEANING: 10 thinks: x + m. 11 says: thinks(x) * 2. "
            + "12 does: says(x) ^ thinks(x - k). PARTS: 20 thinks: super.thinks(x) * 3. NOTHING: 30 says: "
            + "super.says(x) - m. ALL: 40 does: super.does(x + 1). 41 says: -super.says(x). BLUR: 50 does: "
            + "super.does(x) + k. TOLD: 60 thinks: super.thinks(x) ^ 5. 61 does: super.does(x) * 2.");
        actingWorld();
        for (int kind : KINDS) {
            for (int given : XS) {
                due(x.act(6 + kind, 0, given), thinks(kind, 6 + kind, given));
                due(x.act(6 + kind, 1, given), says(kind, 6 + kind, given));
                due(x.act(6 + kind, 2, given), does(kind, 6 + kind, 7, given));
            }
        }
        due(x.act(0, 0, MAX), MAX);
        due(x.act(6, 0, MAX), MIN + 5);
        due(x.act(0, 1, 1 << 30), MIN);
        due(x.act(1, 0, MAX), (MIN) * 3);
        due(x.act(10, 1, MIN), -(MIN + 10) * 6);
        due(x.act(0, 2, MIN), (MAX - 6));
        due(x.act(4, 2, MAX), does(4, 4, 7, MAX));
        refusals();
    }

    private void traceIs(int... bodies) {
        due(x.status(3), bodies.length);
        for (int i = 0; i < bodies.length; i++) {
            due(x.trace(i), bodies[i]);
        }
        for (int i : new int[] {bodies.length, 19, 20, 21, MAX, -1, MIN}) {
            due(x.trace(i), NONE);
        }
    }

    private void noAct() {
        sentence("Promise 41", "0, and no TRACE then: no such MEANING, act.");
        freshTalk("so 1,2");
        int[][] none = {{2, 0}, {-1, 0}, {MIN, 2}, {MAX, 2}, {0, 3}, {0, -1}, {1, MIN}, {1, MAX}, {2, 3}, {256, 0}};
        due(x.act(0, 0, 9), 0);
        traceIs();
        due(x.meaning(0, 4, 0, 0), 0);
        due(x.meaning(0, 3, 0, 0), 1);
        for (int[] one : none) {
            due(x.act(0, 2, 9), does(4, 0, 0, 9));
            due(x.status(3), 8);
            due(x.act(one[0], one[1], 9), 0);
            traceIs();
        }
        refusals();
    }

    private void trace() {
        sentence("Promise 42", "THE TRACE's i-th body. NONE: none such.");
        sentence("WHAT CAN BE SAID", "thinks(..) and so on: the body of the MEANING's KIND, or of the next KIND above "
            + "that has one; super: from the KIND above the body's on. THE TRACE: the numbers of the bodies that ran in "
            + "the latest act(), in the order in which they began; the first 20 are kept.");
        actingWorld();
        traceIs();
        for (int kind : KINDS) {
            for (int act = 2; act >= 0; act--) {
                due(x.act(kind, act, 1), act == 0 ? thinks(kind, kind, 1)
                    : act == 1 ? says(kind, kind, 1) : does(kind, kind, 7, 1));
                traceIs(TRACES[kind][act]);
            }
        }
        refusals();
    }

    // ---- THE IMAGE ----

    /** A TALK and a TOLD MEANING, an IMAGE of them, then all is changed and more comes. */
    private void imagedWorld() {
        freshTalk("so 0*2,10;wish 1;lean 2;two 3 4");
        due(byWords(0, 5, 0, 0, 1), 0);
        due(x.tell(0, 1, 12), 0);
        due(x.image(), 1);
        due(x.tell(0, 1, 99), 12);
        due(x.tell(0, 11, 98), 0);
        due(x.change(0, 0, 50), 1);
        due(x.change(0, 1, 60), 2);
        due(x.chance(0, 0, 70), 2);
        due(x.meaning(0, 3, 0, 0), 1);
        due(talk("so 5"), 1);
        due(x.meaning(1, 4, 0, 0), 2);
    }

    private void imageIsBack() {
        int[] talkOf = {2, 1, 2, 12, 0, 1, 3, 4};
        for (int what = 0; what < 8; what++) {
            due(x.talkOf(0, what), talkOf[what]);
        }
        due(x.truth(0, 0, 1), 2);
        due(x.truth(0, 1, 1), 1);
        due(x.truth(0, 1, 0), 10);
        due(x.does(0, 1), 12);
        due(x.meaningOf(0, 0), 5);
        due(x.status(0), 1);
        due(x.status(1), 1);
        due(x.still(), 0);
        due(x.tell(0, 0, 2), 0);
        due(x.still(), 1);
        due(x.tell(0, 11, 97), 0);
        due(x.tell(0, 1, 96), 12);
        due(x.change(0, 0, 95), 1);
        due(x.chance(0, 0, 94), 2);
    }

    private void image() {
        sentence("Promise 43", "is taken: how many MEANINGS.");
        fresh();
        due(x.image(), 0);
        talk("so 1");
        for (int m = 1; m <= 12; m++) {
            due(x.meaning(0, 3, 0, 0), m - 1);
            due(x.image(), m);
        }
        x.change(0, 0, 7);
        due(x.image(), 12);
        x.change(0, 0, 8);
        due(x.image(), 12);
        x.change(0, 0, 9);
        due(x.restore(), 12);
        due(x.talkOf(0, 1), 8);
        refusals();
    }

    private void imageLeavesOut() {
        sentence("Promise 43", "THE IMAGE of all but SHELVES (and THE IMAGE, REFUSALS, the FAULT, THE TRACE)");
        freshTalk("so 1");
        due(x.meaning(0, 3, 0, 0), 0);
        letters(0, 1, "abc");
        x.row(1, 2, 0);
        x.show(2, 0);
        x.row(3, 0, 1);
        due(x.image(), 1);
        x.set(0, 0, 'z');
        x.row(1, 3, 2);
        x.show(2, NONE);
        x.show(3, 0);
        due(talk("so 1;"), -6);
        due(x.act(0, 1, 4), 24);
        due(x.row(8, 0, 0), -1);
        due(x.restore(), 1);
        due(x.element(0, 0), 'z');
        due(x.element(0, 2), 'c');
        due(x.holds(0), 101);
        due(x.holds(1), 103);
        due(x.holds(2), NONE);
        due(x.holds(3), 0);
        due(x.holds(7), 100);
        due(x.fault(), 5);
        traceIs(30, 11, 20, 10);
        refusals(1, 0, 0, 0, 0, 1);
        due(x.restore(), 1);
    }

    private void restore() {
        sentence("Promise 44", "All is as THE IMAGE has it;");
        imagedWorld();
        for (int again = 0; again < 3; again++) {
            due(x.restore(), 1);
            imageIsBack();
        }
        refusals();
        sentence("Promise 44", "-6 there is none.");
        freshTalk("so 1");
        due(x.restore(), -6);
        due(x.restore(), -6);
        due(x.status(0), 1);
        due(x.image(), 0);
        due(x.restore(), 0);
        due(x.status(0), 1);
        refusals(0, 0, 0, 0, 0, 2);
    }

    private void restoreEmpty() {
        sentence("Promise 44", "how many MEANINGS.");
        fresh();
        due(x.image(), 0);
        talk("so 1");
        x.meaning(0, 3, 0, 0);
        due(x.restore(), 0);
        due(x.status(0), 0);
        due(x.status(1), 0);
        due(x.status(2), 0);
        due(x.runs(0), -1);
        due(x.judge(0), -5);
        due(x.holds(7), 100);
        due(x.talk(7), 0);
        due(x.meaning(0, 4, 0, 0), 0);
        refusals(1, 0, 0, 0, 1);
    }

    private void restoreShelves() {
        sentence("Promise 44", "SHELVES with MEANINGS hold the MEANINGS of these numbers, or NOTHING:");
        freshTalk("so 1,2");
        due(x.meaning(0, 3, 0, 0), 0);
        due(x.meaning(0, 4, 0, 0), 1);
        due(x.image(), 2);
        due(x.meaning(0, 4, 0, 0), 2);
        due(x.meaning(0, 4, 0, 0), 3);
        for (int s = 0; s < 8; s++) {
            due(x.show(s, s % 4), 1);
        }
        x.row(5, 1, 3);
        x.show(6, NONE);
        due(x.restore(), 2);
        int[] holds = {0, 1, NONE, NONE, 0, 101, NONE, NONE};
        for (int s = 0; s < 8; s++) {
            due(x.holds(s), holds[s]);
        }
        due(x.says(0, 1), 1);
        due(x.says(1, 4), 2);
        due(x.says(2, 0), -3);
        due(x.set(3, 0, 1), -3);
        due(x.show(2, 2), -1);
        refusals(1, 0, 2);
    }

    private void restoreFull() {
        sentence("Promise 44", "how many MEANINGS.");
        fresh();
        letters(7, 0, "so 1");
        for (int t = 0; t < 8; t++) {
            x.talk(7);
        }
        for (int m = 0; m < 12; m++) {
            x.meaning(m % 8, 3, 0, 0);
        }
        x.show(0, 11);
        due(x.image(), 12);
        due(x.change(7, 1, 9), 0);
        due(x.restore(), 12);
        due(x.talkOf(7, 2), 0);
        due(x.holds(0), 11);
        due(x.talk(7), -7);
        due(x.meaning(0, 3, 0, 0), -7);
        due(x.status(0), 8);
        due(x.status(1), 12);
        refusals(0, 0, 0, 0, 0, 0, 2);
    }

    /** What was made behind THE IMAGE leaves nothing in what is made in its place. */
    private void slotsAreNew() {
        fresh();
        due(x.image(), 0);
        due(talk("so 1*7,2*8;wish 1;lean 2;words 3;loss a;two 3 4"), 0);
        due(byWords(0, 5, 0, 2, 1), 0);
        x.tell(0, 0, 5);
        x.tell(0, 11, 6);
        due(x.restore(), 0);
        due(talk("so 3"), 0);
        int[] talkOf = {1, 0, 0, 12, 0, 0, 0, 0};
        for (int what = 0; what < 8; what++) {
            due(x.talkOf(0, what), talkOf[what]);
        }
        due(x.truth(0, 0, 1), 1);
        due(x.truth(0, 1, 0), -5);
        due(byWords(0, 5, 0, 0), 0);
        due(x.meaningOf(0, 3), 1);
        due(x.tell(0, 0, 1), 0);
        due(x.tell(0, 11, 1), 0);
        due(byWords(0, 2, 30, 4), 1);
        due(x.restore(), 0);
        due(x.talk(7), 0);
        due(x.meaning(0, 3, 0, 0), 0);
        due(x.meaningOf(0, 0), 3);
        due(x.word(0, 0), 0);
    }

    // ---- status() ----

    private void status() {
        sentence("Promise 45", "How many: 0 TALKS, 1 MEANINGS, 2 MEANINGS that HOLD, 3 bodies that ran in the latest "
            + "act() (all, kept or not);");
        fresh();
        for (int what = 0; what < 4; what++) {
            due(x.status(what), 0);
        }
        talk("so 0,10;wish 6");
        for (int t = 2; t <= 8; t++) {
            x.talk(7);
            due(x.status(0), t);
        }
        for (int m = 1; m <= 12; m++) {
            x.meaning(0, 3 + m % 2, 0, 0);
            due(x.status(1), m);
            due(x.status(2), m / 2);
        }
        x.act(0, 2, 0);
        due(x.status(3), 8);
        x.act(0, 0, 0);
        due(x.status(3), 2);
        x.act(12, 0, 0);
        due(x.status(3), 0);
        sentence("Promise 45", "NONE for another what.");
        for (int what : new int[] {-1, 4, 5, 9, 10, 18, 19, 256, 65_536 + 11, -11, MIN, MAX, MIN + 11}) {
            due(x.status(what), NONE);
        }
        refusals();
    }

    private void mostCalls() {
        sentence("Promise 45", "11 to 17: REFUSALS -1 to -7.");
        freshTalk("so 1");
        while (x.calls() < 511) {
            due(x.talkOf(0, 8), FAR - 5);
        }
        int refused = 511 - 4 - 2;
        due(x.status(15), refused);
        that("these were 512 calls", x.calls() == 512);
    }
}
