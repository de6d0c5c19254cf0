/** Boundary cases of MEANINGS: promises 16 to 25. */
final class MeaningEdges extends Edges {
    private static final int[] BY_ROW = {0, 2, 5};
    private static final int[] ALONG = {0, 1, 2, 3, 4, 5, 6, 7, 8, 9, 10, 11};

    MeaningEdges(Checks checks, Document document) {
        super(checks, document);
    }

    @Override
    void run() {
        twelve();
        wordsThatMayBe();
        rows();
        shelfDoesNotMatter();
        cuts();
        clear();
        tell();
        meaningOf();
        word();
        thought();
        does();
        doesBlurred();
        holds();
        fails();
        toldHolds();
        regret();
        worth();
        beside();
    }

    // ---- promise 16 ----

    private void twelve() {
        sentence("MEANINGS", "MEANINGS have numbers, from 0 on, 12 at most, each of a TALK and a KIND: 0 MEANING; "
            + "1 PARTS, 2 BLUR, 5 TOLD, each under MEANING; 3 NOTHING, 4 ALL, each under PARTS.");
        freshTalk("so 1,2");
        words(0, 0, 1);
        for (int m = 0; m < 12; m++) {
            due(x.meaning(0, m % 6, 0, 1), m);
            due(x.status(1), m + 1);
            due(x.meaningOf(m, 0), m % 6);
            due(x.meaningOf(m + 1, 0), -5);
        }
        for (int kind = 0; kind < 6; kind++) {
            due(x.meaning(0, kind, 0, 1), -7);
        }
        due(x.meaning(0, 6, 0, 1), -1);
        due(x.meaning(0, -1, 0, 1), -1);
        due(x.status(1), 12);
        refusals(2, 0, 0, 0, 12, 0, 6);
        int[] above = {0, 0, 0, 1, 1, 0};
        for (int kind = 0; kind < 6; kind++) {
            x.show(1, kind);
            that("KIND " + kind + " is under MEANING", x.says(1, 0) == 0);
            that("KIND " + kind + " is under " + above[kind], x.says(1, above[kind]) >= 0);
            that("KIND " + kind + " is itself", x.says(1, kind) >= 0);
        }
    }

    private void wordsThatMayBe() {
        sentence("MEANINGS", "Each gives each TRUTH a WORD (0 to WORDS less 1);");
        int[] limits = {1, 2, 12};
        for (int limit : limits) {
            for (int kind : BY_ROW) {
                freshTalk("so 1,2,3;words " + limit);
                due(byWords(0, kind, 0, limit - 1, 0, limit - 1), 0);
                due(byWords(0, kind, 0, limit, 0, 0), -6);
                due(byWords(0, kind, 0, 0, limit, 0), -6);
                due(byWords(0, kind, 0, 0, 0, limit), -6);
                due(byWords(0, kind, 0, -1, 0, 0), -6);
                due(byWords(0, kind, 0, 0, 0, -1), -6);
                due(byWords(0, kind, 0, 0, 0, 32), -6);
                due(byWords(0, kind, 0, 0, 0, 0, limit), 1);
                due(x.word(0, 0), limit - 1);
                due(x.word(0, 1), 0);
                refusals(0, 0, 0, 0, 0, 6);
            }
        }
        sentence("MEANINGS", "words that some TRUTH has are USED.");
        freshTalk("so 1,2,3");
        due(byWords(0, 0, 0, 11, 0, 11), 0);
        due(x.meaningOf(0, 3), 1 << 11 | 1);
        due(byWords(0, 0, 0, 5, 5, 5, 7), 1);
        due(x.meaningOf(1, 3), 1 << 5);
        due(x.thought(1, 7), -5);
    }

    private void rows() {
        sentence("Promise 16", "A MEANING (KIND 0), BLUR one (2, its CLEAR is more), TOLD one (5) by the first elements "
            + "of the ROW in SHELF s;");
        sentence("MEANINGS", "MEANING, BLUR, TOLD ones by a ROW (of each TRUTH its WORD);");
        for (int kind : BY_ROW) {
            freshTalk("so 1,2,3");
            x.row(0, 2, 2);
            x.row(1, 2, 3);
            x.row(2, 2, 64);
            x.row(3, 0, 0);
            due(x.meaning(0, kind, 0, 0), -5);
            due(x.meaning(0, kind, 3, 0), -5);
            due(x.meaning(0, kind, 1, 100), 0);
            x.set(2, 2, 11);
            x.set(2, 3, 99);
            x.set(2, 63, -1);
            due(x.meaning(0, kind, 2, 0), 1);
            x.set(2, 2, 4);
            due(x.word(1, 2), 11);
            due(x.word(1, 3), -5);
            due(x.holds(2), 102);
            refusals(0, 0, 0, 0, 3);
        }
        lowestBitsOfWords();
    }

    private void lowestBitsOfWords() {
        sentence("MEANINGS", "(As ints: of longs the lowest 32 bits.)");
        for (int kind : BY_ROW) {
            freshTalk("so 1,2");
            x.row(0, 3, 2);
            x.set(0, 0, (1L << 32) + 3);
            x.set(0, 1, Long.MIN_VALUE + 11);
            due(x.meaning(0, kind, 0, 0), 0);
            due(x.word(0, 0), 3);
            due(x.word(0, 1), 11);
            x.set(0, 0, -1L << 32);
            due(x.meaning(0, kind, 0, 0), 1);
            due(x.word(1, 0), 0);
            x.set(0, 0, 1L << 31);
            due(x.meaning(0, kind, 0, 0), -6);
            x.set(0, 0, (1L << 32) - 1);
            due(x.meaning(0, kind, 0, 0), -6);
            x.row(1, 0, 2);
            x.set(1, 0, 256 + 5);
            due(x.meaning(0, kind, 1, 0), 2);
            due(x.word(2, 0), 5);
            x.row(2, 1, 2);
            x.set(2, 0, 256 + 5);
            due(x.meaning(0, kind, 2, 0), -6);
            x.row(3, 2, 2);
            x.set(3, 0, 65_536 + 5);
            due(x.meaning(0, kind, 3, 0), -6);
            refusals(0, 0, 0, 0, 0, 4);
        }
    }

    private void shelfDoesNotMatter() {
        sentence("Promise 16", "a PARTS one (1, its CUTS are more), NOTHING (3), ALL (4) (s doesn't matter): its number.");
        for (int kind : new int[] {1, 3, 4}) {
            freshTalk("so 1,2,3");
            x.meaning(0, 3, 0, 0);
            x.show(0, 0);
            x.row(1, 0, 1);
            int number = 1;
            for (int s : new int[] {0, 1, 2, 8, -1, MIN, MAX}) {
                due(x.meaning(0, kind, s, 3), number);
                number++;
            }
            refusals();
        }
        for (int kind : new int[] {0, 3, 4, 5}) {
            freshTalk("so 1,2,3");
            words(1, 0, 1, 2);
            int number = 0;
            for (int more : new int[] {-1, 101, 4, MIN, MAX}) {
                due(x.meaning(0, kind, 1, more), number);
                number++;
            }
            refusals();
        }
        fresh();
        letters(7, 0, "so 1,2");
        for (int t = 0; t < 8; t++) {
            x.talk(7);
        }
        due(x.meaning(7, 4, 0, 0), 0);
        due(x.meaning(8, 4, 0, 0), -1);
        due(x.meaningOf(0, 1), 7);
    }

    private void cuts() {
        sentence("MEANINGS", "PARTS by CUTS (bits: bit i: TRUTH i + 1 begins a new WORD; WORDS are 0, 1, .. along); "
            + "NOTHING: all 0; ALL: TRUTH i WORD i.");
        freshTalk(TWELVE);
        due(x.meaning(0, 1, 0, 0), 0);
        due(x.meaning(0, 1, 0, 2047), 1);
        due(x.meaning(0, 1, 0, 1), 2);
        due(x.meaning(0, 1, 0, 1024), 3);
        due(x.meaning(0, 1, 0, 1365), 4);
        due(x.meaning(0, 3, 0, 0), 5);
        due(x.meaning(0, 4, 0, 0), 6);
        for (int t = 0; t < 12; t++) {
            int[] want = {0, t, Math.min(t, 1), t / 11, (t + 1) / 2, 0, t};
            for (int m = 0; m < want.length; m++) {
                due(x.word(m, t), want[m]);
            }
        }
        due(x.meaning(0, 1, 0, 2048), -6);
        due(x.meaning(0, 1, 0, 4096), -6);
        due(x.meaning(0, 1, 0, -1), -6);
        due(x.meaning(0, 1, 0, MIN), -6);
        due(x.meaning(0, 1, 0, MAX), -6);
        refusals(0, 0, 0, 0, 0, 5);
        sentence("Promise 16", "CUTS (also more words than WORDS; of ALL, too);");
        freshTalk(TWELVE + ";words 11");
        due(x.meaning(0, 1, 0, 2047), -6);
        due(x.meaning(0, 4, 0, 0), -6);
        due(x.meaning(0, 1, 0, 2046), 0);
        due(x.meaning(0, 1, 0, 1023), 1);
        due(x.word(1, 11), 10);
        due(talk("so 5;words 1"), 1);
        due(x.meaning(1, 1, 0, 0), 2);
        due(x.meaning(1, 1, 0, 1), -6);
        due(x.meaning(1, 4, 0, 0), 3);
        due(x.meaning(1, 3, 0, 0), 4);
        due(talk("so 5,6;words 1"), 2);
        due(x.meaning(2, 1, 0, 0), 5);
        due(x.meaning(2, 1, 0, 1), -6);
        due(x.meaning(2, 4, 0, 0), -6);
        due(x.meaning(2, 3, 0, 0), 6);
        due(talk("so 5,6;words 2"), 3);
        due(x.meaning(3, 4, 0, 0), 7);
        due(x.meaning(3, 1, 0, 1), 8);
        due(x.meaning(3, 1, 0, 2), -6);
        refusals(0, 0, 0, 0, 0, 6);
    }

    private void clear() {
        sentence("MEANINGS", "A BLUR one has a CLEAR (0 to 100): what is said comes with that of 100 as it is, else as "
            + "a USED word by even lots (itself too).");
        freshTalk("so 0,100");
        int[] clears = {0, 1, 99, 100};
        for (int m = 0; m < 4; m++) {
            due(byWords(0, 2, clears[m], 0, 1), m);
            x.show(0, m);
            due(x.says(0, 2), clears[m]);
        }
        due(byWords(0, 2, -1, 0, 1), -6);
        due(byWords(0, 2, 101, 0, 1), -6);
        due(byWords(0, 2, MIN, 0, 1), -6);
        due(byWords(0, 2, MAX, 0, 1), -6);
        due(byWords(0, 2, 256 + 50, 0, 1), -6);
        refusals(0, 0, 0, 0, 0, 5);
    }

    // ---- promises 17 to 21 ----

    private void tell() {
        sentence("Promise 17", "The ACT of a word (0 to 11) of a TOLD MEANING becomes v: what it was.");
        sentence("MEANINGS", "TOLD ones have ACTS told by hand for words (0 to 999; 0 at first).");
        freshTalk("so 0,5,9;words 2");
        due(byWords(0, 5, 0, 0, 1, 1), 0);
        due(byWords(0, 5, 0, 1, 1, 0), 1);
        for (int word = 0; word < 12; word++) {
            due(x.tell(0, word, 999 - word), 0);
        }
        due(x.tell(0, 12, 5), -6);
        due(x.tell(0, -1, 5), -6);
        due(x.tell(0, 0, 1000), -6);
        due(x.tell(0, 0, -1), -6);
        due(x.tell(2, 0, 5), -1);
        due(x.tell(-1, 0, 5), -1);
        due(x.does(0, 0), 999);
        due(x.does(0, 1), 998);
        due(x.does(1, 0), 0);
        for (int word = 0; word < 12; word++) {
            due(x.tell(0, word, word), 999 - word);
            due(x.tell(1, word, 0), 0);
        }
        refusals(2, 0, 0, 0, 0, 4);
        sentence("Details", "tell() takes the words 0 to 11, whatever WORDS is.");
        freshTalk("so 0,5;words 1");
        due(byWords(0, 5, 0, 0, 0), 0);
        due(x.tell(0, 11, 999), 0);
        due(x.tell(0, 11, 0), 999);
        due(x.tell(0, 12, 0), -6);
        for (int kind = 0; kind < 5; kind++) {
            due(x.meaning(0, kind == 4 ? 3 : kind, 6, 0), kind + 1);
            due(x.tell(kind + 1, 0, 1), -2);
        }
        due(x.tell(0, 0, 1), 0);
        refusals(0, 5, 0, 0, 0, 1);
    }

    private void meaningOf() {
        sentence("Promise 18", "Of a MEANING: 0 KIND, 1 TALK, 2 how many words are USED, 3 USED (bits).");
        fresh();
        letters(0, 0, TWELVE);
        for (int t = 0; t < 8; t++) {
            x.talk(0);
        }
        due(x.meaning(7, 4, 0, 0), 0);
        due(x.meaning(0, 3, 0, 0), 1);
        due(x.meaning(6, 1, 0, 1024), 2);
        due(byWords(5, 2, 0, 11, 11, 11, 11, 11, 11, 11, 11, 11, 11, 11, 11), 3);
        due(byWords(4, 5, 0, 0, 11, 0, 11, 0, 11, 0, 11, 0, 11, 0, 5), 4);
        due(byWords(3, 0, 0, ALONG), 5);
        int[][] want = {{4, 7, 12, 4095}, {3, 0, 1, 1}, {1, 6, 2, 3}, {2, 5, 1, 2048}, {5, 4, 3, 2081}, {0, 3, 12, 4095}};
        for (int m = 0; m < 6; m++) {
            for (int what = 0; what < 4; what++) {
                due(x.meaningOf(m, what), want[m][what]);
            }
            due(x.meaningOf(m, 4), -5);
            due(x.meaningOf(m, -1), -5);
        }
        due(x.meaningOf(6, 0), -5);
        due(x.meaningOf(-1, 0), -5);
        refusals(0, 0, 0, 0, 14);
    }

    private void word() {
        sentence("Promise 19", "The WORD of a TRUTH.");
        freshTalk(TWELVE);
        due(byWords(0, 0, 0, 11, 10, 9, 8, 7, 6, 5, 4, 3, 2, 1, 0), 0);
        for (int t = 0; t < 12; t++) {
            due(x.word(0, t), 11 - t);
        }
        due(x.word(0, 12), -5);
        due(x.word(0, -1), -5);
        due(talk("so 7"), 1);
        due(byWords(1, 0, 0, 4), 1);
        due(x.word(1, 0), 4);
        due(x.word(1, 1), -5);
        due(x.word(2, 0), -5);
        refusals(0, 0, 0, 0, 4);
    }

    private void thought() {
        sentence("Promise 20", "The TRUTHS (bits) that have a word.");
        freshTalk(TWELVE);
        due(byWords(0, 0, 0, 11, 0, 0, 0, 0, 0, 0, 0, 0, 0, 0, 11), 0);
        due(x.meaning(0, 3, 0, 0), 1);
        due(x.meaning(0, 4, 0, 0), 2);
        due(x.thought(0, 11), 1 << 11 | 1);
        due(x.thought(0, 0), 2046);
        due(x.thought(1, 0), 4095);
        due(x.thought(2, 0), 1);
        due(x.thought(2, 11), 2048);
        for (int word : new int[] {1, 10, 12, -1, 32, 43, -21, MIN, MAX}) {
            due(x.thought(0, word), -5);
            due(x.does(0, word), -5);
        }
        due(x.thought(1, 1), -5);
        due(x.thought(3, 0), -5);
        refusals(0, 0, 0, 0, 20);
    }

    private void does() {
        sentence("Promise 21", "ACT of a word.");
        sentence("MEANINGS", "ACT of a USED word: DONE at its WEIGHTS (CLEAR 0: all alike); of TOLD ones as told.");
        freshTalk("so 0,10*3,21,999");
        due(byWords(0, 0, 0, 11, 11, 3, 3), 0);
        due(x.does(0, 11), 7);
        due(x.does(0, 3), 510);
        x.change(0, 1, -500);
        due(x.does(0, 11), 0);
        due(x.does(0, 3), 10);
        x.change(0, 1, 500);
        due(x.does(0, 11), 507);
        due(x.does(0, 3), 999);
        x.change(0, 1, 0);
        x.chance(0, 1, 99);
        due(x.does(0, 11), 10);
        x.chance(0, 1, 1);
        due(x.does(0, 11), 5);
        due(byWords(0, 5, 0, 11, 11, 3, 3), 1);
        due(x.does(1, 11), 0);
        x.tell(1, 11, 999);
        x.tell(1, 3, 1);
        due(x.does(1, 11), 999);
        due(x.does(1, 3), 1);
        due(x.does(1, 0), -5);
        due(x.does(2, 0), -5);
        sentence("MEANINGS", "WEIGHT of a TRUTH at a USED word: its CHANCE, if it has that word, else 0;");
        freshTalk("so 0*99,1,2;loss a");
        due(byWords(0, 0, 0, 1, 0, 0), 0);
        due(x.does(0, 1), 0);
        due(x.does(0, 0), 1);
        x.chance(0, 2, 2);
        due(x.does(0, 0), 2);
    }

    private void doesBlurred() {
        sentence("MEANINGS", "of BLUR ones: CHANCE times (CLEAR times how many are USED, if it has that word, and 100 "
            + "less CLEAR).");
        freshTalk("so 0,100");
        int[] clears = {0, 1, 99, 100};
        int[][] acts = {{50, 50}, {49, 50}, {0, 99}, {0, 100}};
        for (int m = 0; m < 4; m++) {
            due(byWords(0, 2, clears[m], 0, 11), m);
            due(x.does(m, 0), acts[m][0]);
            due(x.does(m, 11), acts[m][1]);
        }
        due(byWords(0, 2, 0, 4, 4), 4);
        due(x.does(4, 4), 50);
        due(talk("so 0,100;loss a"), 1);
        int[][] medians = {{0, 0}, {0, 100}, {0, 100}, {0, 100}};
        for (int m = 0; m < 4; m++) {
            due(byWords(1, 2, clears[m], 0, 11), m + 5);
            due(x.does(m + 5, 0), medians[m][0]);
            due(x.does(m + 5, 11), medians[m][1]);
        }
        x.chance(1, 0, 2);
        due(x.does(6, 11), 0);
        due(x.does(7, 11), 100);
        due(x.does(7, 0), 0);
        refusals();
    }

    // ---- promise 22 ----

    private void holds() {
        sentence("MEANINGS", "A MEANING HOLDS if no TRUTH has less REGRET by another USED word than by its own;");
        sentence("Promise 22", "FAILS; NONE: it HOLDS.");
        for (String loss : new String[] {"s", "a"}) {
            freshTalk("so 10,20;loss " + loss);
            due(byWords(0, 0, 0, 0, 1), 0);
            due(byWords(0, 2, 100, 0, 1), 1);
            due(x.meaning(0, 4, 0, 0), 2);
            due(x.meaning(0, 3, 0, 0), 3);
            int[][] judged = {{5, NONE}, {6, 1}, {-5, NONE}, {-6, 100}, {500, 1}, {-500, 100}, {0, NONE}};
            for (int[] wish : judged) {
                x.change(0, 0, wish[0]);
                for (int m = 0; m < 3; m++) {
                    due(x.judge(m), wish[1]);
                }
                due(x.judge(3), NONE);
            }
        }
        freshTalk("so 5;wish 3");
        due(byWords(0, 5, 0, 0), 0);
        x.tell(0, 0, 5);
        x.tell(0, 1, 8);
        due(x.judge(0), NONE);
        due(byWords(0, 2, 0, 7), 1);
        due(x.judge(1), NONE);
        freshTalk("so 0,100;wish 500");
        due(byWords(0, 2, 0, 0, 1), 0);
        due(x.judge(0), NONE);
        due(byWords(0, 2, 1, 0, 1), 1);
        due(x.judge(1), 1);
    }

    private void fails() {
        sentence("MEANINGS", "FAILS: the first TRUTH, for it the first word: 100 times the TRUTH and the word;");
        freshTalk("so 0,20,40,60,80,100,120,140,160,180,200,205;wish -3");
        due(x.meaning(0, 4, 0, 0), 0);
        due(x.judge(0), 1110);
        x.change(0, 0, 3);
        due(x.judge(0), 1011);
        x.change(0, 0, -2);
        due(x.judge(0), NONE);
        x.change(0, 0, 2);
        due(x.judge(0), NONE);
        x.change(0, 0, 500);
        due(x.judge(0), 1);
        x.change(0, 0, -500);
        due(x.judge(0), 100);
        freshTalk("so 0,10,20;wish 30");
        due(x.meaning(0, 4, 0, 0), 0);
        due(x.judge(0), 1);
        due(byWords(0, 0, 0, 11, 9, 7), 1);
        due(x.judge(1), 7);
        due(byWords(0, 0, 0, 1, 0, 0), 2);
        due(x.judge(2), 0);
        x.change(0, 0, -30);
        due(x.judge(0), 100);
        due(x.judge(1), 111);
        due(x.judge(2), 101);
    }

    private void toldHolds() {
        sentence("MEANINGS", "a TOLD one, besides, if at each USED word no number would be better for THE HEARER than "
            + "its ACT (sum of WEIGHT times LOSS).");
        sentence("Details", "A TOLD one HOLDS where no number is strictly better.");
        freshTalk("so 0,1");
        due(byWords(0, 5, 0, 11, 11), 0);
        int[][] squares = {{0, NONE}, {1, NONE}, {2, 10_011}, {999, 10_011}};
        toldIs(0, 11, squares);
        due(talk("so 4,9;loss a"), 1);
        due(byWords(1, 5, 0, 0, 0), 1);
        int[][] middles = {{3, 10_000}, {4, NONE}, {6, NONE}, {9, NONE}, {10, 10_000}, {0, 10_000}};
        toldIs(1, 0, middles);
        due(talk("so 999;lean 9"), 2);
        due(byWords(2, 5, 0, 0), 2);
        int[][] high = {{998, 10_000}, {999, NONE}, {0, 10_000}};
        toldIs(2, 0, high);
        due(talk("so 0;lean -9"), 3);
        due(byWords(3, 5, 0, 0), 3);
        int[][] low = {{0, NONE}, {1, 10_000}};
        toldIs(3, 0, low);
        due(talk("so 0*3,10;lean 2"), 4);
        due(byWords(4, 5, 0, 5, 5), 4);
        int[][] weighed = {{3, 10_005}, {4, NONE}, {5, NONE}, {6, 10_005}};
        toldIs(4, 5, weighed);
        sentence("MEANINGS", "for TOLD ones that only so fail 10,000 and the first such word.");
        freshTalk("so 10,20");
        due(byWords(0, 5, 0, 11, 2), 0);
        due(x.judge(0), 10_002);
        x.tell(0, 2, 20);
        due(x.judge(0), 10_011);
        x.tell(0, 11, 10);
        due(x.judge(0), NONE);
        x.tell(0, 2, 21);
        due(x.judge(0), 10_002);
        x.tell(0, 11, 22);
        due(x.judge(0), 2);
        x.change(0, 0, 12);
        due(x.judge(0), 111);
    }

    private void toldIs(int meaning, int word, int[][] judged) {
        for (int[] told : judged) {
            x.tell(meaning, word, told[0]);
            due(x.judge(meaning), told[1]);
        }
    }

    // ---- promises 23 to 25 ----

    private void regret() {
        sentence("Promise 23", "REGRET of a TRUTH by a word.");
        sentence("MEANINGS", "REGRET of a TRUTH by a word: LOSS of (that word's ACT less what THE SPEAKER likes); "
            + "of BLUR ones: CLEAR times how many are USED times that, and (100 less CLEAR) times the sum of that over "
            + "all USED words.");
        for (String loss : new String[] {"s", "a"}) {
            boolean squares = loss.equals("s");
            freshTalk("so 0,10;wish 3;loss " + loss);
            due(byWords(0, 0, 0, 11, 0), 0);
            due(x.regret(0, 0, 11), squares ? 9 : 3);
            due(x.regret(0, 0, 0), squares ? 49 : 7);
            due(x.regret(0, 1, 0), squares ? 9 : 3);
            due(x.regret(0, 1, 11), squares ? 169 : 13);
            x.change(0, 0, 0);
            due(x.regret(0, 0, 11), 0);
        }
        freshTalk("so 0,10");
        due(byWords(0, 2, 0, 0, 1), 0);
        due(byWords(0, 2, 50, 0, 1), 1);
        due(byWords(0, 2, 100, 0, 1), 2);
        long[][] want = {{5000, 5000}, {50 * 2 * 4 + 50 * (4 + 49), 50 * 2 * 49 + 50 * (4 + 49)}, {0, 20_000}};
        for (int m = 0; m < 3; m++) {
            due(x.regret(m, 0, 0), want[m][0]);
            due(x.regret(m, 0, 1), want[m][1]);
        }
        freshTalk("so 0,1,2,3,4,5,6,7,8,9,10,999");
        x.change(0, 1, 500);
        x.change(0, 0, -500);
        due(byWords(0, 2, 100, ALONG), 0);
        due(byWords(0, 0, 0, ALONG), 1);
        due(x.regret(0, 0, 11), 1200L * 1499 * 1499);
        due(x.regret(1, 0, 11), 1499 * 1499);
        due(x.regret(1, 11, 11), 500 * 500);
        due(x.regret(1, 12, 11), FAR - 5);
        due(x.regret(1, 0, 12), FAR - 5);
        due(x.regret(1, -1, 0), FAR - 5);
        due(x.regret(1, 0, -1), FAR - 5);
        due(x.regret(2, 0, 0), FAR - 5);
        refusals(0, 0, 0, 0, 5);
    }

    private void worth() {
        sentence("Promise 24", "WORTH (what 0, 1).");
        sentence("MEANINGS", "WORTH of a MEANING: what 0 for THE HEARER: the sum over TRUTHS of CHANCE times LOSS of "
            + "(ACT of its word less what he likes); of BLUR ones: of CLEAR times USED times that, and (100 less CLEAR) "
            + "times the sum over USED words; what 1 for THE SPEAKER likewise, by what he likes.");
        freshTalk("so 0*99,10;wish 1");
        due(x.meaning(0, 3, 0, 0), 0);
        due(x.meaning(0, 4, 0, 0), 1);
        due(x.worth(0, 0), 100);
        due(x.worth(0, 1), 99 + 121);
        due(x.worth(1, 0), 0);
        due(x.worth(1, 1), 100);
        due(talk("so 0,10;wish 1"), 1);
        due(byWords(1, 2, 0, 3, 9), 2);
        due(byWords(1, 2, 100, 3, 9), 3);
        due(byWords(1, 2, 100, 3, 3), 4);
        due(x.worth(2, 0), 2 * 100 * 50);
        due(x.worth(2, 1), 100 * 2 * 16 + 100 * 2 * 36);
        due(x.worth(3, 0), 0);
        due(x.worth(3, 1), 100 * 2 * 2);
        due(x.worth(4, 0), 100 * 50);
        due(x.worth(4, -1), FAR - 5);
        due(x.worth(4, 2), FAR - 5);
        due(x.worth(5, 0), FAR - 5);
        refusals(0, 0, 0, 0, 3);
        greatWorth();
    }

    /** A row that is full, of twelve TRUTHS with the greatest CHANCES. */
    private void greatWorth() {
        freshTalk("so 0*99,1*99,2*99,3*99,4*99,5*99,6*99,7*99,8*99,9*99,10*99,11*99");
        x.change(0, 1, 500);
        x.change(0, 0, -500);
        due(byWords(0, 2, 100, ALONG), 0);
        due(x.worth(0, 0), 0);
        due(x.worth(0, 1), 12L * 99 * 1200 * 1_000_000);
        due(x.meaning(0, 4, 0, 0), 1);
        due(x.worth(1, 1), 12L * 99 * 1_000_000);
        due(x.meaning(0, 3, 0, 0), 2);
        due(x.worth(2, 0), 99 * 146);
    }

    private void beside() {
        sentence("Promise 25", "WORTH of NOTHING (of a TALK), less that of ALL (as if there were words enough), for a "
            + "side (what 0, 1).");
        freshTalk("so 0,1;wish -1");
        due(x.beside(0, 0), 1);
        due(x.beside(0, 1), -1);
        due(talk(TWELVE + ";words 1"), 1);
        due(x.beside(1, 0), 146);
        due(x.beside(1, 1), 146);
        due(talk("so 7;wish 500;lean -500"), 2);
        due(x.beside(2, 0), 0);
        due(x.beside(2, 1), 0);
        due(talk("so 0*99,999*99;words 1"), 3);
        due(x.beside(3, 0), 99 * (499 * 499 + 500 * 500));
        due(x.beside(3, 2), FAR - 5);
        due(x.beside(3, -1), FAR - 5);
        due(x.beside(4, 0), FAR - 5);
        due(x.beside(-1, 0), FAR - 5);
        refusals(0, 0, 0, 0, 4);
    }
}
