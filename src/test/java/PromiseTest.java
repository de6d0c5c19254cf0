/** Each promise by answers that were worked out by hand: ordinary inputs, edges, wrong inputs. */
public final class PromiseTest {
    private static final long FAR = -2_000_000_000L;
    private final Checks checks = new Checks();
    private Counted x = new Counted();

    public static void main(String[] args) {
        PromiseTest test = new PromiseTest();
        test.shelves();
        test.talks();
        test.meanings();
        test.holding();
        test.sayings();
        test.others();
        test.state();
        test.checks.end();
    }

    private void fresh(String about) {
        checks.that("the test makes more calls than an object is for", !x.usedTooLong());
        checks.about(about);
        x = new Counted();
    }

    private void due(String call, long got, long want) {
        checks.due(call, got, want);
    }

    private void put(int s, int sort, String text) {
        x.row(s, sort, text.length());
        for (int i = 0; i < text.length(); i++) {
            x.set(s, i, text.charAt(i));
        }
    }

    /** The answer of talk() to a text. */
    private int talk(String text) {
        put(7, 0, text);
        return x.talk(7);
    }

    private void words(int s, int... words) {
        x.row(s, 1, words.length);
        for (int i = 0; i < words.length; i++) {
            x.set(s, i, words[i]);
        }
    }

    private void refused(int... counts) {
        for (int i = 0; i < 7; i++) {
            due("status(" + (11 + i) + ")", x.status(11 + i), i < counts.length ? counts[i] : 0);
        }
    }

    private void fault(String text, int place) {
        x = new Counted();
        due("talk of '" + text + "'", talk(text), place < 0 ? 0 : -6);
        due("fault of '" + text + "'", x.fault(), place);
        refused(0, 0, 0, 0, 0, place < 0 ? 0 : 1);
    }

    // ---- 1 to 8 ----

    private void shelves() {
        promise1();
        promise2();
        promise3();
        promise4();
        promise5();
        promise6and7();
        promise8();
    }

    private void promise1() {
        fresh("promise 1");
        due("status(0)", x.status(0), 0);
        due("status(1)", x.status(1), 0);
        due("status(2)", x.status(2), 0);
        due("status(3)", x.status(3), 0);
        due("still", x.still(), 0);
        due("fault", x.fault(), -1);
        due("trace(0)", x.trace(0), -1);
        for (int s = 0; s < 8; s++) {
            due("holds", x.holds(s), -1);
        }
        due("NONE", SaidForNothing.NONE, -1);
        refused();
    }

    private void promise2() {
        fresh("promise 2");
        for (int sort = 0; sort < 4; sort++) {
            due("row", x.row(sort, sort, 64), 1);
            due("holds", x.holds(sort), 100 + sort);
        }
        due("row of none", x.row(7, 0, 0), 1);
        due("set in a row of none", x.set(7, 0, 1), -5);
        x.set(0, 63, 9);
        due("last element", x.element(0, 63), 9);
        x.row(0, 0, 64);
        due("a new row's element", x.element(0, 63), 0);
        due("shelf -1", x.row(-1, 0, 1), -1);
        due("shelf 8", x.row(8, 9, -1), -1);
        due("size -1", x.row(0, 9, -1), -4);
        due("sort -1", x.row(0, -1, 65), -6);
        due("sort 4", x.row(0, 4, 1), -6);
        due("size 65", x.row(0, 0, 65), -7);
        due("size MAX", x.row(0, 3, Integer.MAX_VALUE), -7);
        due("size MIN", x.row(0, 3, Integer.MIN_VALUE), -4);
        due("row is as it was", x.holds(0), 100);
        refused(2, 0, 0, 2, 1, 2, 2);
    }

    private void promise3() {
        fresh("promise 3");
        for (int sort = 0; sort < 4; sort++) {
            x.row(sort, sort, 2);
            due("set", x.set(sort, 1, 0x1_8765_8321_80ffL), 1);
        }
        due("byte", x.element(0, 1), -1);
        due("short", x.element(1, 1), (short) 0x80ff);
        due("int", x.element(2, 1), 0x8321_80ff);
        due("long", x.element(3, 1), 0x1_8765_8321_80ffL);
        due("its neighbour", x.element(3, 0), 0);
        due("shelf -1", x.set(-1, 0, 1), -1);
        due("shelf 8", x.set(8, 0, 1), -1);
        talk("so 1");
        x.meaning(0, 3, 0, 0);
        x.show(5, 0);
        due("a meaning", x.set(5, 0, 1), -2);
        due("nothing", x.set(6, 0, 1), -3);
        due("element 2", x.set(0, 2, 1), -5);
        due("element -1", x.set(0, -1, 1), -5);
        refused(2, 1, 1, 0, 2);
    }

    private void promise4() {
        fresh("promise 4");
        put(0, 0, "abcdef");
        put(1, 0, "uvwxyz");
        due("copy", x.copy(0, 1, 1, 3, 3), 1);
        due("copied", x.element(1, 3) * 10000 + x.element(1, 5) * 100, 'b' * 10000 + 'd' * 100);
        due("not copied", x.element(1, 2), 'w');
        due("upwards in one row", x.copy(0, 0, 0, 1, 5), 1);
        due("as it was ahead", x.element(0, 5), 'e');
        due("as it was ahead", x.element(0, 2), 'b');
        put(0, 0, "abcdef");
        due("downwards in one row", x.copy(0, 0, 2, 0, 4), 1);
        due("as it was ahead", x.element(0, 3), 'f');
        due("none at the end", x.copy(0, 1, 6, 6, 0), 1);
        due("none beyond", x.copy(0, 1, 7, 0, 0), -5);
        due("i", x.copy(0, 1, -1, 0, 1), -5);
        due("j", x.copy(0, 1, 0, -1, 1), -5);
        due("end of i", x.copy(0, 1, 4, 0, 3), -5);
        due("end of j", x.copy(0, 1, 0, 4, 3), -5);
        due("far", x.copy(0, 1, Integer.MAX_VALUE, 0, Integer.MAX_VALUE), -5);
        due("n", x.copy(0, 1, -1, -1, -1), -4);
        due("p", x.copy(-1, 1, 0, 0, 1), -1);
        due("q", x.copy(0, 8, 0, 0, -1), -1);
        due("nothing there", x.copy(0, 5, 0, 0, -1), -3);
        due("nothing here", x.copy(5, 0, 0, 0, 1), -3);
        x.row(2, 1, 6);
        due("two sorts", x.copy(0, 2, 0, 0, -1), -2);
        talk("so 1");
        x.meaning(0, 3, 0, 0);
        x.show(3, 0);
        due("a meaning there", x.copy(0, 3, 0, 0, 1), -2);
        due("a meaning and nothing", x.copy(3, 5, 0, 0, 1), -2);
        refused(2, 3, 2, 1, 6);
    }

    private void promise5() {
        fresh("promise 5");
        put(0, 3, "hi");
        due("element", x.element(0, 1), 'i');
        due("beyond", x.element(0, 2), 0);
        due("below", x.element(0, -1), 0);
        due("nothing", x.element(1, 0), 0);
        due("no shelf", x.element(8, 0) + x.element(-1, 0), 0);
        refused();
    }

    private void promise6and7() {
        fresh("promises 6 and 7");
        talk("so 1,2");
        x.meaning(0, 3, 0, 0);
        x.meaning(0, 4, 0, 0);
        x.row(0, 2, 3);
        due("a row", x.holds(0), 102);
        due("show", x.show(0, 1), 1);
        due("a meaning", x.holds(0), 1);
        due("an element of it", x.element(0, 0), 0);
        due("show nothing", x.show(0, -1), 0);
        due("nothing", x.holds(0), -1);
        due("shelf 8", x.show(8, 0), -1);
        due("shelf -1", x.show(-1, -1), -1);
        due("meaning 2", x.show(0, 2), -1);
        due("meaning -2", x.show(0, -2), -1);
        due("holds 8", x.holds(8), -1);
        due("holds -1", x.holds(-1), -1);
        refused(4);
    }

    private void promise8() {
        fresh("promise 8");
        talk("so 1");
        talk("so 1,2,3,4");
        words(0, 5, 5, 0, 5);
        due("plain", x.meaning(1, 0, 0, 0), 0);
        due("parts", x.meaning(1, 1, 0, 5), 1);
        due("blur", x.meaning(1, 2, 0, 35), 2);
        due("nothing", x.meaning(1, 3, 0, 0), 3);
        due("all", x.meaning(1, 4, 0, 0), 4);
        due("told", x.meaning(1, 5, 0, 0), 5);
        x.tell(5, 0, 77);
        x.tell(5, 5, 99);
        int[][] says = {
            {1, -2, -2, -2, -2, -2}, {1, 3, -2, -2, -2, -2}, {1, -2, 35, -2, -2, -2},
            {1, 1, -2, 1, -2, -2}, {1, 4, -2, -2, 4, -2}, {1, -2, -2, -2, -2, 77}};
        for (int m = 0; m < 6; m++) {
            x.show(1, m);
            for (int kind = 0; kind < 6; kind++) {
                due("says of " + m + " as " + kind, x.says(1, kind), says[m][kind]);
            }
        }
        due("no shelf", x.says(8, 0), -1);
        due("no kind", x.says(1, 6), -1);
        due("no kind", x.says(2, -1), -1);
        due("a row", x.says(0, 0), -2);
        due("nothing", x.says(2, 0), -3);
        refused(3, 24, 1);
    }

    // ---- 9 to 15 ----

    private void talks() {
        promise9();
        promise10();
        promise11and12();
        promise13();
        promise14and15();
    }

    private void promise9() {
        fresh("promise 9");
        x.row(0, 3, 4);
        long[] high = {(5L << 32) + 's', (-1L << 32) + 'o', ' ', '7'};
        for (int i = 0; i < 4; i++) {
            x.set(0, i, high[i]);
        }
        due("of longs the lowest bits", x.talk(0), 0);
        due("its X", x.truth(0, 0, 0), 7);
        for (int t = 1; t < 8; t++) {
            put(1, 1 + t % 2, "so " + t);
            due("talk", x.talk(1), t);
        }
        due("a ninth", x.talk(1), -7);
        due("its fault", x.fault(), -1);
        due("a faulty ninth", talk("so"), -6);
        due("its fault", x.fault(), 2);
        x.meaning(0, 3, 0, 0);
        x.show(2, 0);
        due("a meaning", x.talk(2), -2);
        due("nothing", x.talk(3), -3);
        due("no shelf", x.talk(-1), -1);
        due("no shelf", x.talk(8), -1);
        due("the fault stays", x.fault(), 2);
        due("talks", x.status(0), 8);
        refused(2, 1, 1, 0, 0, 1, 1);
    }

    private void promise10() {
        checks.about("promise 10");
        String twelve = "so 1,2,3,4,5,6,7,8,9,10,11,12";
        fault(twelve + ";words 12", -1);
        fault(twelve + ",13", twelve.length());
        fault("", 0);
        fault("s", 1);
        fault("So 1", 0);
        fault("so1", 2);
        fault("so ", 3);
        fault("so x", 3);
        fault("so -1", 3);
        fault("so 999", -1);
        fault("so 1000", 6);
        fault("so 000", -1);
        fault("so 0000", 6);
        fault("so 5,", 5);
        fault("so 5,5", 5);
        fault("so 5,006", -1);
        fault("so 5 ", 4);
        fault("so 5*", 5);
        fault("so 5*0", 5);
        fault("so 5*1", -1);
        fault("so 5*99,6*9", -1);
        fault("so 5*100", 5);
        fault("so 5*9*9", 6);
        fault("so 5;", 5);
        fault("so 5;;", 5);
        fault("so 5;wish 1,6", 11);
        fault("so 5;w", 6);
        fault("so 5;wash 1", 6);
        fault("so 5;wisp", 8);
        fault("so 5;wodrs", 7);
        fault("so 5;l", 6);
        fault("so 5;lack", 6);
        fault("so 5;lest", 7);
        fault("so 5;lost", 8);
        fault("so 5;to", 6);
        fault("so 5;x", 5);
        fault("so 5;wish", 9);
        fault("so 5;wish1", 9);
        fault("so 5;wish  1", 10);
        fault("so 5;wish -", 11);
        fault("so 5;wish --1", 11);
        fault("so 5;wish -500", -1);
        fault("so 5;wish -501", 11);
        fault("so 5;wish 501", 10);
        fault("so 5;wish 5000", 13);
        fault("so 5;lean 500;lean -0", -1);
        fault("so 5;words 0", 11);
        fault("so 5;words 13", 11);
        fault("so 5;words -1", 11);
        fault("so 5;words 012", -1);
        fault("so 5;loss b", 10);
        fault("so 5;loss as", 11);
        fault("so 5;loss ", 10);
        fault("so 5;two 1", 10);
        fault("so 5;two 1 ", 11);
        fault("so 5;two 501 x", 9);
        fault("so 5;two 1 -501", 12);
        fault("so 5;two -1 -1;two 0 500", -1);
        fault("so 5*100,x", 5);
        fault("so 5,4,x", 5);
        fault("so 5;two 501 1;x", 9);
        fault("so 5;two 1 501;x", 11);
        fault("so 5;two 1x;x", 10);
        fault("so 5;wish 501;x", 10);
        fault("so 5;lean -501;x", 11);
        fault("so 5;words 13;x", 11);
        fault("so 5;loss b;x", 10);
        fault("so 5;loss;x", 9);
        fault("so 5;lose a;x", 8);
        fault("so 5;two 1 2 3", 12);
        due("a right talk behind a fault", talk("so 1"), 0);
        due("fault", x.fault(), -1);
    }

    private void promise11and12() {
        fresh("promises 11 and 12");
        talk("so 2,6*3,20;wish 2;lean 1;loss a");
        talk("so 9;wish 4;lean 6;two -7 8;wish -5;words 5;two 1 -2;loss a");
        int[][] of = {{3, 2, 1, 12, 1, 0, 0, 0}, {1, -5, 6, 5, 1, 1, 1, -2}};
        for (int t = 0; t < 2; t++) {
            for (int what = 0; what < 8; what++) {
                due("talkOf(" + t + ", " + what + ")", x.talkOf(t, what), of[t][what]);
            }
        }
        talk("so 9;loss a;words 3;loss s;words 4;lean 1;lean 2");
        due("the last LOSS, WORDS, LEAN", 100 * x.talkOf(2, 4) + 10 * x.talkOf(2, 3) + x.talkOf(2, 2), 42);
        due("no talk", x.talkOf(3, 0), FAR - 5);
        due("no talk", x.talkOf(-1, 0), FAR - 5);
        due("what 8", x.talkOf(0, 8), FAR - 5);
        due("what -1", x.talkOf(0, -1), FAR - 5);
        due("X", x.truth(0, 2, 0), 20);
        due("CHANCE", x.truth(0, 1, 1), 3);
        due("CHANCE not told", x.truth(0, 2, 1), 1);
        due("no talk", x.truth(3, 0, 0), -5);
        due("no truth", x.truth(0, 3, 0), -5);
        due("no truth", x.truth(0, -1, 0), -5);
        due("no what", x.truth(0, 0, 2), -5);
        due("no what", x.truth(0, 0, -1), -5);
        refused(0, 0, 0, 0, 9);
    }

    private void promise13() {
        fresh("promise 13");
        talk("so 2,6*3,20;wish 2;lean 1;loss a");
        due("the middle of all", x.done(0, 7), 7);
        due("of several the least", x.done(0, 5), 3);
        due("one", x.done(0, 4), 21);
        talk("so 0,1,999;lean -10");
        due("not below 0", x.done(1, 1), 0);
        due("the mean of -10 and 989 is 489.5", x.done(1, 5), 489);
        due("the mean of -10 and -9", x.done(1, 3), 0);
        talk("so 990,995,999;lean 20");
        due("not above 999", x.done(2, 7), 999);
        talk("so 0,1*2;lean 3");
        due("the mean of 3, 4, 4", x.done(3, 3), 4);
        due("no talk", x.done(4, 1), -1);
        due("no truth", x.done(0, 8), -1);
        due("no truth", x.done(0, -1), -1);
        due("no truth", x.done(0, Integer.MIN_VALUE), -1);
        due("empty", x.done(0, 0), -6);
        refused(4, 0, 0, 0, 0, 1);
    }

    private void promise14and15() {
        fresh("promises 14 and 15");
        talk("so 0,4*7;wish -3");
        due("wish", x.change(0, 0, 500), -3);
        due("wish", x.change(0, 0, -500), 500);
        due("lean", x.change(0, 1, 9), 0);
        due("lean now", x.talkOf(0, 2), 9);
        due("wish now", x.talkOf(0, 1), -500);
        due("done now", x.done(0, 1), 9);
        due("no talk", x.change(1, 5, 0), FAR - 1);
        due("no talk", x.change(-1, 0, 0), FAR - 1);
        due("what", x.change(0, 2, 0), FAR - 6);
        due("what", x.change(0, -1, 0), FAR - 6);
        due("v", x.change(0, 0, 501), FAR - 6);
        due("v", x.change(0, 1, -501), FAR - 6);
        due("chance", x.chance(0, 1, 99), 7);
        due("chance", x.chance(0, 1, 1), 99);
        due("chance now", x.truth(0, 1, 1), 1);
        due("no talk", x.chance(1, 0, 1), -1);
        due("no truth", x.chance(0, 2, 0), -1);
        due("no truth", x.chance(0, -1, 1), -1);
        due("v", x.chance(0, 0, 0), -6);
        due("v", x.chance(0, 0, 100), -6);
        refused(5, 0, 0, 0, 0, 6);
    }

    // ---- 16 to 21 ----

    private void meanings() {
        promise16();
        promise17();
        promises18to21();
    }

    private void promise16() {
        fresh("promise 16");
        talk("so 1,2,3,4;words 3");
        words(0, 2, 0, 2, 2);
        words(1, 0, 1, 2);
        words(2, 0, 1, 2, 3);
        words(3, 0, -1, 0, 0, 0);
        due("by a row", x.meaning(0, 0, 0, -1), 0);
        due("by cuts", x.meaning(0, 1, 99, 5), 1);
        due("blur", x.meaning(0, 2, 0, 0), 2);
        due("blur", x.meaning(0, 2, 0, 100), 3);
        due("nothing", x.meaning(0, 3, -1, 999), 4);
        due("told", x.meaning(0, 5, 0, -1), 5);
        due("more words than there are", x.meaning(0, 4, 0, 0), -6);
        due("more cuts than there are words", x.meaning(0, 1, 0, 7), -6);
        due("cuts below", x.meaning(0, 1, 0, -1), -6);
        due("cuts beyond", x.meaning(0, 1, 0, 8), -6);
        due("a word beyond", x.meaning(0, 0, 2, 0), -6);
        due("a word below", x.meaning(0, 5, 3, 0), -6);
        due("too clear", x.meaning(0, 2, 0, 101), -6);
        due("not clear enough", x.meaning(0, 2, 0, -1), -6);
        due("too few elements", x.meaning(0, 2, 1, 101), -5);
        due("an empty shelf", x.meaning(0, 0, 5, 0), -3);
        x.show(5, 0);
        due("a meaning", x.meaning(0, 5, 5, 0), -2);
        due("no talk", x.meaning(1, 3, 0, 0), -1);
        due("no kind", x.meaning(0, 6, 0, 0), -1);
        due("no kind", x.meaning(0, -1, 0, 0), -1);
        due("no shelf", x.meaning(0, 0, 8, 0), -1);
        for (int m = 6; m < 12; m++) {
            due("more", x.meaning(0, 3, 0, 0), m);
        }
        due("a thirteenth", x.meaning(0, 3, 0, 0), -7);
        due("a wrong thirteenth", x.meaning(0, 1, 0, 8), -6);
        refused(4, 1, 1, 0, 1, 9, 1);
        fresh("promise 16, longs");
        talk("so 1,2");
        x.row(6, 3, 2);
        x.set(6, 1, (9L << 32) + 2);
        due("words by the lowest bits", x.meaning(0, 0, 6, 0), 0);
        due("the word", x.word(0, 1), 2);
    }

    private void promise17() {
        fresh("promise 17");
        talk("so 1,2;words 2");
        words(0, 0, 1);
        x.meaning(0, 0, 0, 0);
        x.meaning(0, 5, 0, 0);
        due("tell", x.tell(1, 0, 999), 0);
        due("tell", x.tell(1, 0, 5), 999);
        due("a word that isn't used", x.tell(1, 11, 7), 0);
        due("it is kept", x.tell(1, 11, 0), 7);
        due("its act", x.does(1, 0), 5);
        due("no meaning", x.tell(2, 0, 5), -1);
        due("no meaning", x.tell(-1, 12, 5), -1);
        due("not told", x.tell(0, 12, 5), -2);
        due("word 12", x.tell(1, 12, 5), -6);
        due("word -1", x.tell(1, -1, 5), -6);
        due("v", x.tell(1, 0, 1000), -6);
        due("v", x.tell(1, 0, -1), -6);
        refused(2, 1, 0, 0, 0, 4);
    }

    private void promises18to21() {
        fresh("promises 18 to 21");
        talk("so 1");
        talk("so 0,10,20*2");
        words(0, 7, 3, 7);
        x.meaning(1, 0, 0, 0);
        x.meaning(1, 1, 0, 2);
        due("KIND", x.meaningOf(0, 0), 0);
        due("KIND", x.meaningOf(1, 0), 1);
        due("TALK", x.meaningOf(0, 1), 1);
        due("how many", x.meaningOf(0, 2), 2);
        due("USED", x.meaningOf(0, 3), 0x88);
        due("USED", x.meaningOf(1, 3), 3);
        due("what 4", x.meaningOf(0, 4), -5);
        due("what -1", x.meaningOf(0, -1), -5);
        due("no meaning", x.meaningOf(2, 0), -5);
        due("word", x.word(0, 0), 7);
        due("word", x.word(0, 1), 3);
        due("word", x.word(1, 1) * 10 + x.word(1, 2), 1);
        due("no truth", x.word(0, 3), -5);
        due("no truth", x.word(0, -1), -5);
        due("no meaning", x.word(-1, 0), -5);
        due("thought", x.thought(0, 7), 5);
        due("thought", x.thought(0, 3), 2);
        due("not used", x.thought(0, 0), -5);
        due("not used", x.thought(0, -1), -5);
        due("not used", x.thought(0, 39), -5);
        due("no meaning", x.thought(2, 0), -5);
        due("does: the mean of 0, 20, 20 is 13.3", x.does(0, 7), 13);
        due("does", x.does(0, 3), 10);
        due("not used", x.does(0, 4), -5);
        due("not used", x.does(0, 12), -5);
        due("no meaning", x.does(2, 0), -5);
        refused(0, 0, 0, 0, 13);
        blurredAct();
    }

    private void blurredAct() {
        fresh("promise 21, blurred");
        talk("so 0,10");
        words(0, 4, 2);
        x.meaning(0, 2, 0, 50);
        due("150 of 0 and 50 of 10: 2.5, the least", x.does(0, 4), 2);
        due("50 of 0 and 150 of 10: 7.5, the least", x.does(0, 2), 7);
        x.meaning(0, 2, 0, 0);
        due("all alike", x.does(1, 4) * 10 + x.does(1, 2), 55);
        x.meaning(0, 2, 0, 100);
        due("as it is", x.does(2, 4) * 100 + x.does(2, 2), 10);
    }

    // ---- 22 to 25 ----

    private void holding() {
        promise22();
        promise22told();
        promises23and24();
        promise25();
    }

    private void promise22() {
        fresh("promise 22");
        talk("so 0,10;wish 6");
        words(0, 5, 2);
        x.meaning(0, 0, 0, 0);
        due("0 would rather be taken for 10", x.judge(0), 2);
        x.change(0, 0, 5);
        due("as far from both", x.judge(0), -1);
        x.change(0, 0, -6);
        due("10 would rather be taken for 0", x.judge(0), 105);
        x.meaning(0, 3, 0, 0);
        due("nothing always holds", x.judge(1), -1);
        talk("so 0,10,20;wish 30");
        x.meaning(1, 4, 0, 0);
        due("the first word that is better, not the best", x.judge(2), 1);
        due("no meaning", x.judge(3), -5);
        due("no meaning", x.judge(-1), -5);
        refused(0, 0, 0, 0, 2);
    }

    private void promise22told() {
        fresh("promise 22, told");
        talk("so 0,10");
        words(0, 0, 1);
        x.meaning(0, 5, 0, 0);
        due("both acts 0", x.judge(0), 10_001);
        x.tell(0, 0, 3);
        x.tell(0, 1, 10);
        due("3 isn't best for 0", x.judge(0), 10_000);
        x.tell(0, 0, 0);
        due("all best", x.judge(0), -1);
        x.tell(0, 0, 10);
        x.tell(0, 1, 0);
        due("crossed: the speaker first", x.judge(0), 1);
        toldTies();
    }

    private void toldTies() {
        talk("so 0,10;loss a");
        words(0, 8, 8);
        x.meaning(1, 5, 0, 0);
        for (int act = 0; act <= 11; act++) {
            x.tell(1, 8, act);
            due("no number is better than " + act, x.judge(1), act <= 10 ? -1 : 10_008);
        }
        talk("so 0*3,10;lean 2");
        x.meaning(2, 5, 0, 0);
        for (int act = 2; act <= 7; act++) {
            x.tell(2, 8, act);
            due("4 and 5 are as good, not " + act, x.judge(2), act == 4 || act == 5 ? -1 : 10_008);
        }
    }

    private void promises23and24() {
        fresh("promises 23 and 24");
        talk("so 0,10");
        words(0, 0, 1);
        x.meaning(0, 2, 0, 50);
        due("50 * 2 * 4 and 50 * (4 + 49)", x.regret(0, 0, 0), 3050);
        due("50 * 2 * 49 and 50 * (4 + 49)", x.regret(0, 0, 1), 7550);
        due("50 * 2 * 9 and 50 * (64 + 9)", x.regret(0, 1, 1), 4550);
        due("worth", x.worth(0, 0), 7600);
        due("worth", x.worth(0, 1), 7600);
        talk("so 2,6*3,20;wish 2;lean 1;loss a");
        x.meaning(1, 1, 0, 1);
        due("regret", x.regret(1, 2, 0), 19);
        due("regret", x.regret(1, 2, 1), 15);
        due("for the hearer", x.worth(1, 0), 14);
        due("for the speaker", x.worth(1, 1), 19);
        talk("so 2,6*3,20;wish 2;lean 1");
        x.meaning(2, 1, 0, 1);
        due("squares: 10.5, so 10", x.does(2, 1), 10);
        due("regret", x.regret(2, 2, 0), 361);
        due("for the hearer: 0, 3 * 9, 121", x.worth(2, 0), 148);
        due("for the speaker: 1, 3 * 4, 144", x.worth(2, 1), 157);
        due("no meaning", x.regret(3, 0, 0), FAR - 5);
        due("no truth", x.regret(1, 3, 0), FAR - 5);
        due("no truth", x.regret(1, -1, 0), FAR - 5);
        due("not used", x.regret(1, 0, 2), FAR - 5);
        due("not used", x.regret(1, 0, -1), FAR - 5);
        due("no meaning", x.worth(-1, 0), FAR - 5);
        due("what", x.worth(0, 2), FAR - 5);
        due("what", x.worth(0, -1), FAR - 5);
        refused(0, 0, 0, 0, 8);
    }

    private void promise25() {
        fresh("promise 25");
        talk("so 2,6*3,20;wish 2;lean 1;loss a;words 1");
        due("for the hearer", x.beside(0, 0), 18);
        due("for the speaker", x.beside(0, 1), 16);
        due("no talk", x.beside(1, 0), FAR - 5);
        due("what", x.beside(0, 2), FAR - 5);
        due("what", x.beside(0, -1), FAR - 5);
        refused(0, 0, 0, 0, 3);
    }

    // ---- 26 to 34 ----

    private void sayings() {
        promises26to30();
        promise29ties();
        promise31();
        promises32and33();
        promise34();
    }

    private void promises26to30() {
        fresh("promises 26 to 30");
        talk("so 2,6*3,20;wish 2;lean 1;loss a");
        talk("so 2,6*3,20;wish 2;lean 1;loss a;words 2");
        talk("so 0,10;wish 6");
        talk("so 1,2,3,4,5,6,7");
        due("runs", x.runs(0), 4);
        due("finest", x.finest(0), 3);
        due("bound", x.bound(0), 3);
        due("best for the hearer", x.best(0, 0), 3);
        due("best for the speaker", x.best(0, 1), 3);
        due("any: 0 and 2 together don't hold", x.any(0), 4);
        due("runs of two words", x.runs(1), 3);
        due("the least cuts of two words", x.finest(1), 1);
        due("bound", x.bound(1), 2);
        due("best of two words", x.best(1, 0), 2);
        due("best of two words", x.best(1, 1), 2);
        due("any of two words", x.any(1), 3);
        due("only nothing holds", x.runs(2), 1);
        due("finest", x.finest(2), 0);
        due("bound", x.bound(2), 1);
        due("best", x.best(2, 0) + x.best(2, 1), 0);
        due("any", x.any(2), 1);
        due("seven truths", x.bound(3), 7);
        due("any of seven", x.any(3), -6);
        due("sides", x.best(0, 2), -6);
        due("sides", x.best(0, -1), -6);
        due("no talk", x.runs(4), -1);
        due("no talk", x.finest(-1), -1);
        due("no talk", x.bound(4), -1);
        due("no talk", x.best(4, 2), -1);
        due("no talk", x.any(4), -1);
        refused(5, 0, 0, 0, 0, 3);
    }

    private void promise29ties() {
        fresh("promises 26 to 30, of several the least cuts");
        talk("so 0,1,2;loss a;words 2");
        due("0 from 1 and 2, and 0 and 1 from 2", x.runs(0), 3);
        due("both of worth 1", x.best(0, 0), 1);
        due("both of worth 1", x.best(0, 1), 1);
        due("finest", x.finest(0), 1);
        talk("so 1,2,3,4,5,6;lean -6");
        due("all acts are 0: all runs hold", x.runs(1), 32);
        due("the finest", x.finest(1), 31);
        due("the best", x.best(1, 0) + x.best(1, 1), 0);
        due("all ways", x.any(1), 203);
        talk("so 1,2,3,4,5,6;lean -6;words 3");
        due("runs of three words: 1, 5, 10", x.runs(2), 16);
        due("the finest", x.finest(2), 3);
        due("ways with three words: 1, 31, 90", x.any(2), 122);
        talk("so 0,999;lean 500;wish 500");
        due("acts 500 and 999", x.best(3, 0), 1);
    }

    private void promise31() {
        fresh("promise 31");
        talk("so 2,6*3,20;wish 400;lean 1;loss a");
        due("one word", x.edge(0, 1), 63);
        due("two words: 7 and 21", x.edge(0, 2), 8);
        due("three words: 3, 7 and 21", x.edge(0, 3), 3);
        due("four words", x.edge(0, 4), -1);
        due("twelve words", x.edge(0, 12), -1);
        due("the wish stays", x.talkOf(0, 1), 400);
        talk("so 0,1;lean -60");
        due("both acts 0: any wish", x.edge(1, 2), 63);
        talk("so 0,10;lean -10");
        due("acts 0 and 0", x.edge(2, 2), 63);
        talk("so 0,10,20;lean 40;words 2");
        due("not more words than there are", x.edge(3, 3), -1);
        due("acts 40 and 55: 10 and 47.5", x.edge(3, 2), 47);
        talk("so 100,101;lean -40");
        due("wishes below 0 only", x.edge(4, 2), -1);
        int[][] leans = {{55, 60}, {68, 63}, {69, -1}};
        for (int[] lean : leans) {
            x.change(2, 1, lean[0]);
            due("wishes from lean - 5 to lean + 5", x.edge(2, 2), lean[1]);
        }
        talk("so 0,11;lean 68");
        due("wishes from 62.5 to 73.5", x.edge(5, 2), 63);
        x.change(5, 1, 69);
        due("wishes from 63.5 to 74.5", x.edge(5, 2), -1);
        x.change(5, 1, 0);
        due("wishes to 5.5", x.edge(5, 2), 5);
        due("no talk", x.edge(6, 0), -11);
        due("no talk", x.edge(-1, 1), -11);
        due("k", x.edge(0, 0), -16);
        due("k", x.edge(0, 13), -16);
        refused(2, 0, 0, 0, 0, 2);
    }

    private void promises32and33() {
        fresh("promises 32 and 33");
        talk("so 0,10;wish 6;two 0 -6");
        due("together they keep one honest", x.room(0), 2);
        due("each alone not", x.doors(0), 101);
        talk("so 0,10;wish 6;two 0 -6;words 1");
        due("one word", x.room(1), 1);
        talk("so 0,10;wish 6;two 0 1");
        due("to the second alone", x.doors(2), 201);
        due("6 * 6 and 1 against 4 * 4 and 9 * 9", x.room(2), 2);
        talk("so 0,10;wish 1;two 0 90");
        due("to the hearer alone", x.doors(3), 102);
        due("90 weighs more", x.room(3), 1);
        talk("so 0,10");
        due("no second", x.room(4), -6);
        due("no second", x.doors(4), -6);
        due("no talk", x.room(5), -1);
        due("no talk", x.doors(-1), -1);
        refused(2, 0, 0, 0, 0, 2);
    }

    private void promise34() {
        fresh("promise 34");
        talk("so 0,10;wish 6");
        due("of equal worth the clearest: both acts 5", x.middle(0, 2, 0), 5);
        due("cuts", x.middle(0, 2, 1), 1);
        due("one word", x.middle(0, 1, 0), 100);
        due("cuts", x.middle(0, 1, 1), 0);
        due("three words", x.middle(0, 3, 0), -1);
        due("three words", x.middle(0, 12, 1), -1);
        talk("so 0,10;words 1");
        due("not more words than there are", x.middle(1, 2, 0), -1);
        talk("so 0,4,9*3;wish 2;loss a");
        due("925 by 200, less than 1000", x.middle(2, 2, 0), 95);
        due("blurred, 0 and 4 go together", x.middle(2, 2, 1), 2);
        talk("so 0,2,4,7*3;wish 1;loss a");
        due("855 by 300 is 815 by 300", x.middle(3, 3, 0), 95);
        due("so the least cuts", x.middle(3, 3, 1), 5);
        talk("so 0,1*2,5,7;wish 2;loss a");
        due("2500 by 300 is 2440 by 300: the clearest", x.middle(4, 3, 0), 50);
        due("cuts", x.middle(4, 3, 1), 6);
        due("no talk", x.middle(5, 0, 0), -11);
        due("k", x.middle(0, 0, 0), -16);
        due("k", x.middle(0, 13, 0), -16);
        due("what", x.middle(0, 1, 2), -16);
        due("what", x.middle(0, 1, -1), -16);
        refused(1, 0, 0, 0, 0, 4);
    }

    // ---- 35 to 40 ----

    private void others() {
        promises35to37();
        promise38();
        promise39();
        promise40();
    }

    private void promises35to37() {
        fresh("promises 35 to 37");
        talk("so 2,6*3,20;wish 2;lean 1;loss a");
        due("ends", x.ends(0, 5, 20), 6);
        due("ends of one", x.ends(0, 0, 0), 3 + 3 * 7 + 21);
        due("ends of all", x.ends(0, 0, 999), 5);
        due("best ends", x.bestEnds(0), 3021);
        due("the best run loses none", x.leave(0), 0);
        talk("so 0,10;wish 6");
        due("best ends", x.bestEnds(1), 10);
        due("36 is less than 50", x.leave(1), 1);
        x.change(1, 0, -6);
        due("best ends", x.bestEnds(1), 4);
        talk("so 0,4;wish 3");
        due("best ends", x.bestEnds(2), 4);
        due("9 isn't less than 8", x.leave(2), 0);
        talk("so 990;wish 100;lean -500");
        due("kept to what can be done", x.bestEnds(3), 490_490);
        talk("so 990;wish 100;lean 500");
        due("kept to what can be done", x.bestEnds(4), 999_999);
        talk("so 500,510;wish 6");
        due("best ends", x.bestEnds(5), 500_510);
        due("36 is less than 50", x.leave(5), 1);
        due("no talk", x.ends(6, 0, 0), FAR - 5);
        due("a below", x.ends(0, -1, 0), FAR - 5);
        due("b beyond", x.ends(0, 0, 1000), FAR - 5);
        due("a above b", x.ends(0, 2, 1), FAR - 5);
        due("no talk", x.bestEnds(6), -1);
        due("no talk", x.leave(-1), -1);
        refused(2, 0, 0, 0, 4);
    }

    private void promise38() {
        fresh("promise 38");
        talk("so 0,9;wish 500");
        due("9 against 0", x.agree(0, -500), 100);
        due("far from both", x.agree(0, 500), -1);
        talk("so 5");
        due("one truth alone", x.agree(1, -500), -1);
        x.change(0, 0, -500);
        due("0 against 9", x.agree(0, 500), 1);
        talk("so 400,600;wish 300");
        due("0 is far enough from 300", x.agree(2, -300), -1);
        due("0 is too near to 299", x.agree(2, -301), 100);
        x.change(2, 0, 299);
        due("998 is far enough from 699", x.agree(2, -301), -1);
        x.change(2, 1, 1);
        x.change(2, 0, 301);
        due("0 is too near to 300, 999 to 701", x.agree(2, -300), 100);
        due("0 is far enough from 301", x.agree(2, -299), -1);
        x.change(2, 0, 300);
        due("999 is far enough from 700", x.agree(2, -300), -1);
        talk("so 10,20;wish -8");
        due("10 to 20, though 0 and 1004 are of no use", x.agree(3, 492), -1);
        due("no talk", x.agree(4, 0), -11);
        due("no talk", x.agree(-1, 501), -11);
        due("wish", x.agree(0, 501), -16);
        due("wish", x.agree(0, -501), -16);
        refused(2, 0, 0, 0, 0, 2);
    }

    private void promise39() {
        fresh("promise 39");
        talk("so 0,10;wish 6");
        x.meaning(0, 4, 0, 0);
        x.meaning(0, 3, 0, 0);
        x.meaning(0, 1, 0, 1);
        due("nothing alone", x.still(), 2);
        x.change(0, 0, 5);
        due("all", x.still(), 7);
        x.change(0, 1, -5);
        due("none lies far enough", x.still(), 2);
        refused();
    }

    /** The numbers of the seed 1 are 16838, 5758, 10113, 17515, 31051, 5627, 23010, 7419. */
    private void promise40() {
        fresh("promise 40");
        talk("so 0,10;loss a");
        x.meaning(0, 3, 0, 0);
        due("0, 0", x.draw(0, 1, 2), 0);
        due("0, 0, 1", x.draw(0, 1, 3), 10);
        due("0, 0, 1, 1, 1, 1, 0", x.draw(0, 1, 7), 40);
        due("the lowest 31 bits", x.draw(0, Integer.MIN_VALUE + 1, 7), 40);
        words(0, 9, 4);
        x.meaning(0, 2, 0, 50);
        due("0 is said, 4 or 9 comes: the second used one", x.draw(1, 1, 1), 0);
        due("10 is said, the second used one comes", x.draw(1, 1, 2), 10);
        due("0 is said and comes", x.draw(1, 1, 3), 10);
        x.chance(0, 0, 3);
        due("2, 2, 1, 3", x.draw(0, 1, 4), 10);
        x.change(0, 1, -20);
        due("0 for -20 or -10: 20 each, less 10 for a 10", x.draw(0, 1, 4), 20 + 20 + 20 + 10);
        talk("so 0;lean -2");
        x.meaning(1, 4, 0, 0);
        due("200 times", x.draw(2, 99, 200), 800);
        due("once", x.draw(2, 99, 1), 4);
        due("no meaning", x.draw(3, 1, 1), FAR - 5);
        due("n", x.draw(0, 1, 0), FAR - 5);
        due("n", x.draw(0, 1, 201), FAR - 5);
        refused(0, 0, 0, 0, 3);
    }

    // ---- 41 to 45 ----

    private void state() {
        promises41and42();
        promises43and44();
        promise45();
    }

    private void traced(int... bodies) {
        due("bodies", x.status(3), bodies.length);
        for (int i = 0; i < bodies.length; i++) {
            due("trace(" + i + ")", x.trace(i), bodies[i]);
        }
        due("behind the trace", x.trace(bodies.length), -1);
        due("ahead of the trace", x.trace(-1), -1);
    }

    private void promises41and42() {
        fresh("promises 41 and 42");
        talk("so 1");
        talk("so 1,2");
        words(0, 0, 1);
        for (int kind = 0; kind < 6; kind++) {
            x.meaning(1, kind, 0, 0);
        }
        due("MEANING thinks", x.act(0, 0, 7), 7);
        traced(10);
        due("MEANING does", x.act(0, 2, 7), 14 ^ 6);
        traced(12, 11, 10, 10);
        due("PARTS says", x.act(1, 1, 7), 48);
        traced(11, 20, 10);
        due("BLUR does", x.act(2, 2, 7), (18 ^ 8) + 1);
        traced(50, 12, 11, 10, 10);
        due("NOTHING says", x.act(3, 1, 7), 57);
        traced(30, 11, 20, 10);
        due("NOTHING does", x.act(3, 2, 7), 57 ^ 27);
        traced(12, 30, 11, 20, 10, 20, 10);
        due("ALL says", x.act(4, 1, 7), -66);
        traced(41, 11, 20, 10);
        due("ALL does", x.act(4, 2, 7), -72 ^ 33);
        traced(40, 12, 41, 11, 20, 10, 20, 10);
        due("TOLD thinks", x.act(5, 0, 7), 12 ^ 5);
        traced(60, 10);
        due("TOLD does", x.act(5, 2, 7), (18 ^ 14) * 2);
        traced(61, 12, 11, 60, 10, 60, 10);
        due("wrapping", x.act(1, 0, Integer.MAX_VALUE), Integer.MIN_VALUE * 3);
        due("no meaning", x.act(6, 0, 7), 0);
        traced();
        x.act(0, 0, 7);
        due("no act", x.act(0, 3, 7), 0);
        traced();
        x.act(0, 0, 7);
        due("no act", x.act(0, -1, 7), 0);
        traced();
        due("no meaning", x.act(-1, 0, 7), 0);
        refused();
    }

    private void promises43and44() {
        fresh("promises 43 and 44");
        due("no image", x.restore(), -6);
        due("image of nothing", x.image(), 0);
        talk("so 0,10;two 1 2");
        words(0, 0, 1);
        x.meaning(0, 5, 0, 0);
        x.tell(0, 1, 10);
        due("image", x.image(), 1);
        x.tell(0, 1, 99);
        x.meaning(0, 4, 0, 0);
        x.change(0, 0, 6);
        x.change(0, 1, 7);
        x.chance(0, 1, 8);
        talk("so 3");
        x.show(1, 0);
        x.show(2, 1);
        x.act(1, 0, 3);
        talk("so?");
        due("restore", x.restore(), 1);
        due("the kept meaning", x.holds(1), 0);
        due("the lost meaning", x.holds(2), -1);
        due("a row stays", x.holds(0), 101);
        due("a row's letters stay", x.element(7, 2), '?');
        due("what was told", x.tell(0, 1, 55), 10);
        due("wish", x.talkOf(0, 1), 0);
        due("lean", x.talkOf(0, 2), 0);
        due("chance", x.truth(0, 1, 1), 1);
        due("the second", x.talkOf(0, 7), 2);
        due("talks", x.status(0), 1);
        due("meanings", x.status(1), 1);
        due("the trace stays", x.trace(1), 10);
        due("the fault stays", x.fault(), 2);
        due("again", x.restore(), 1);
        due("what was told, again", x.tell(0, 1, 55), 10);
        refused(0, 0, 0, 0, 0, 2);
    }

    private void promise45() {
        fresh("promise 45");
        talk("so 0,10;wish 6");
        talk("so 1");
        x.meaning(0, 4, 0, 0);
        x.meaning(0, 3, 0, 0);
        x.meaning(1, 4, 0, 0);
        x.act(0, 2, 1);
        due("talks", x.status(0), 2);
        due("meanings", x.status(1), 3);
        due("those that hold", x.status(2), 2);
        due("bodies", x.status(3), 8);
        int[] none = {-1, 4, 10, 18, Integer.MAX_VALUE, Integer.MIN_VALUE};
        for (int what : none) {
            due("status(" + what + ")", x.status(what), -1);
        }
        refused();
    }
}
