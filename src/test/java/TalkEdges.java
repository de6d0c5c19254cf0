/** Boundary cases of TALKS: how they are read, where a FAULT is, and promises 9 to 15. */
final class TalkEdges extends Edges {
    /** A text with a mark behind each letter at which it may end. */
    private static final String MAY_END =
        "so 1|*2|0|,3|0|;wish -4|;words 1|2|;lean 7|0|;loss a|;two 5 -6|0|";

    TalkEdges(Checks checks, Document document) {
        super(checks, document);
    }

    @Override
    void run() {
        grammar();
        numbers();
        parts();
        terms();
        promise9();
        promise10();
        promise11();
        promise12();
        promise13();
        promise14();
        promise15();
    }

    /** A text's FAULT on a new object; NONE: it is a TALK. */
    private void fault(String text, int place) {
        fresh();
        letters(0, 0, text);
        int got = x.talk(0);
        that("talk() of '" + text + "' answered " + got, got == (place == NONE ? 0 : -6));
        int at = x.fault();
        that("the FAULT of '" + text + "' was " + at + ", due is " + place, at == place);
        due(x.status(0), place == NONE ? 1 : 0);
        refusals(0, 0, 0, 0, 0, place == NONE ? 0 : 1);
    }

    private void right(String... texts) {
        for (String text : texts) {
            fault(text, NONE);
        }
    }

    // ---- how a TALK is read ----

    private void grammar() {
        sentence("TALKS", "so, a blank, ITEM, then any number of times a comma and ITEM (12 at most);");
        right("so 0", TWELVE, TWELVE + ";wish 1");
        fault(TWELVE + ",12", TWELVE.length());
        fault("so,1", 2);
        fault("so1", 2);
        fault("so  1", 3);
        fault(" so 1", 0);
        fault("So 1", 0);
        fault("sO 1", 1);
        fault("so ,1", 3);
        fault("so 1,", 5);
        fault("so 1,,2", 5);
        fault("so 1, 2", 5);
        fault("so 1 ", 4);
        sentence("TALKS", "then any number of times ; and PART.");
        right("so 1", "so 1;loss a", fullRow());
        fault("so 1;", 5);
        fault("so 1;;loss a", 5);
        fault("so 1; loss a", 5);
        fault("so 1;loss a;", 12);
        fault("so 1;loss a,2", 11);
        fault("so 1,23" + ";loss a".repeat(8) + ";", 64);
        sentence("Details", "The FAULT of a thirteenth ITEM is the comma ahead of it.");
        fault(TWELVE + ",12", 28);
        fault(TWELVE + ",", 28);
        fault(TWELVE + ",x", 28);
        fault(TWELVE + ",0;", 28);
        fault("so 9,8," + TWELVE.substring(3), 5);
        ends();
        wrongLetters();
    }

    /** 64 letters, eight PARTS. */
    private static String fullRow() {
        return "so 1,2,3" + ";loss a".repeat(7) + ";loss s";
    }

    private void ends() {
        sentence("TALKS", "(the number of elements, if it ends too early);");
        StringBuilder text = new StringBuilder();
        fault("", 0);
        for (int i = 0; i < MAY_END.length(); i++) {
            if (MAY_END.charAt(i) != '|') {
                text.append(MAY_END.charAt(i));
                boolean mayEnd = i + 1 < MAY_END.length() && MAY_END.charAt(i + 1) == '|';
                fault(text.toString(), mayEnd ? NONE : text.length());
            }
        }
    }

    private void wrongLetters() {
        sentence("TALKS", "The FAULT: the first place at which an element can't stand as TALKS go on");
        String text = MAY_END.replace("|", "");
        long[] wrong = {'#', 0, -1, 's' + 256, '0' - 1, '9' + 1, (1L << 31) + '1', MAX, MIN};
        for (int place = 0; place < text.length(); place++) {
            for (int i = 0; i < wrong.length; i += 1 + place % 3) {
                fresh();
                letters(3, 3, text);
                x.set(3, place, wrong[i]);
                due(x.talk(3), -6);
                due(x.fault(), place);
            }
        }
        String[] early = {"x", "sx", "sox", "so x", "so 1x", "so 1;x", "so 1;wx", "so 1;wix", "so 1;wisx",
            "so 1;wishx", "so 1;wish x", "so 1;wish -x", "so 1;wish 5x", "so 1;wox", "so 1;worx", "so 1;wordx",
            "so 1;wordsx", "so 1;words x", "so 1;lx", "so 1;lex", "so 1;leax", "so 1;leanx", "so 1;lean x",
            "so 1;lox", "so 1;losx", "so 1;lossx", "so 1;loss x", "so 1;loss ax", "so 1;tx", "so 1;twx",
            "so 1;twox", "so 1;two x", "so 1;two 1x", "so 1;two 1 x", "so 1;two 1 -x", "so 1*x", "so 1,x"};
        for (String one : early) {
            fault(one, one.length() - 1);
            fault(one + ";wish 501", one.length() - 1);
        }
        fault("so 1\0", 4);
        firstOfTwo();
    }

    /** What is wrong at first counts, also where the letter there would do further on. */
    private void firstOfTwo() {
        String[] cut = {"so 1;wish", "so 1;wish ", "so 1;wish -", "so 1;lean", "so 1;lean ", "so 1;words",
            "so 1;words ", "so 1;loss", "so 1;loss ", "so 1;two", "so 1;two ", "so 1;two 1", "so 1;two 1 ", "so 1;",
            "so 1,", "so 1*", "so ", "so"};
        for (String start : cut) {
            fault(start + ";loss a", start.length());
            fault(start + ";x", start.length());
            fault(start + ",2", start.length());
        }
        String[][] numbers = {{"so 50,", "4"}, {"so 5*", "0"}, {"so 5*", "100"}, {"so 1;wish ", "501"},
            {"so 1;wish -", "501"}, {"so 1;lean ", "501"}, {"so 1;words ", "0"}, {"so 1;words ", "13"},
            {"so 1;two ", "501"}, {"so 1;two -", "501"}, {"so 1;two 1 ", "501"}, {"so 1;two 1 -", "501"}};
        for (String[] number : numbers) {
            for (String behind : new String[] {"", ";", ";loss a", ";x", "x", ";wish 501", " 1", " 501", "0"}) {
                fault(number[0] + number[1] + behind, number[0].length());
            }
        }
    }

    // ---- NUMBERS ----

    private void numbers() {
        sentence("TALKS", "ITEM: a NUMBER (X, 0 to 999, each above the one ahead),");
        right("so 0", "so 999", "so 000", "so 5,6", "so 998,999", "so 0,999", "so 5*9,6", "so 09,10", "so 5,006");
        fault("so -1", 3);
        fault("so 5,5", 5);
        fault("so 5,4", 5);
        fault("so 0,0", 5);
        fault("so 7,07", 5);
        fault("so 999,999", 7);
        fault("so 1,9,8", 7);
        fault("so 1,9,2", 7);
        fault("so 5*1,3", 7);
        fault("so 100,20", 7);
        sentence("TALKS", "perhaps * and a NUMBER (CHANCE, 1 to 99; 1 if it isn't there).");
        right("so 5*1", "so 5*99", "so 5*099", "so 5*01,6*9,7");
        fault("so 5*0", 5);
        fault("so 5*00", 5);
        fault("so 5*100", 5);
        fault("so 5*999", 5);
        fault("so 5*-1", 5);
        fault("so 5*", 5);
        fault("so *5", 3);
        fault("so 5**5", 5);
        fault("so 5*5*5", 6);
        freshTalk("so 5*99,6,7*1");
        due(x.truth(0, 0, 1), 99);
        due(x.truth(0, 1, 1), 1);
        due(x.truth(0, 2, 1), 1);
        digits();
    }

    private void digits() {
        sentence("TALKS", "NUMBER: 1 to 3 digits.");
        right("so 7", "so 07", "so 007", "so 1*001", "so 1;wish 007", "so 1;words 001");
        fault("so ", 3);
        fault("so /", 3);
        fault("so :", 3);
        fault("so 0007", 6);
        fault("so 1000", 6);
        fault("so 1*0010", 8);
        fault("so 1;wish 0005", 13);
        fault("so 1;words 0010", 14);
        fault("so 1;two 0001 1", 12);
        fault("so 1;two 1 0001", 14);
        sentence("TALKS", "of a NUMBER that may not be the place of its first digit.");
        fault("so 500,499", 7);
        fault("so 1*100", 5);
        fault("so 1;wish 999", 10);
        fault("so 1;words 13", 11);
        fault("so 1;two 501 1", 9);
        fault("so 1;two 1 501", 11);
        fault("so 1;wish 5010", 10);
        sentence("TALKS", "SIGNED: perhaps -, a NUMBER (0 to 500).");
        sentence("Details", "The FAULT of a SIGNED number that may not be is its first digit, behind the -.");
        for (String name : new String[] {"wish ", "lean ", "two 1 ", "two "}) {
            String start = "so 1;" + name;
            String rest = name.equals("two ") ? " 1" : "";
            right(start + "500" + rest, start + "-500" + rest, start + "0" + rest, start + "-0" + rest);
            fault(start + "501" + rest, start.length());
            fault(start + "-501" + rest, start.length() + 1);
            fault(start + "999" + rest, start.length());
            fault(start + "-999" + rest, start.length() + 1);
            fault(start + "+1" + rest, start.length());
            fault(start + "--1" + rest, start.length() + 1);
            fault(start + "- 1" + rest, start.length() + 1);
        }
    }

    // ---- PARTS ----

    private void parts() {
        sentence("TALKS", "PART: wish, a blank and SIGNED; lean, a blank and SIGNED; words, a blank and a NUMBER "
            + "(1 to 12); loss, a blank and s or a; two, a blank, SIGNED, a blank and SIGNED.");
        right("so 1;words 1", "so 1;words 12", "so 1;words 012", "so 1;loss s", "so 1;loss a", "so 1;two -500 500");
        fault("so 1;words 0", 11);
        fault("so 1;words 13", 11);
        fault("so 1;words 120", 11);
        fault("so 1;words -1", 11);
        fault("so 1;loss b", 10);
        fault("so 1;loss r", 10);
        fault("so 1;loss S", 10);
        fault("so 1;loss sa", 11);
        fault("so 1;two 1", 10);
        fault("so 1;two 1,2", 10);
        fault("so 1;two 1 ", 11);
        fault("so 1;two 1 2 3", 12);
        fault("so 1;wish  1", 10);
        fault("so 1;wish", 9);
        fault("so 1;Wish 1", 5);
        sentence("TALKS", "Of several PARTS of one sort the last counts; at first: wish 0, lean 0, words 12, loss s; "
            + "without two there is no SECOND.");
        talkIs("so 1", 1, 0, 0, 12, 0, 0, 0, 0);
        talkIs("so 1;wish 5;wish -6;lean 7;lean 8", 1, -6, 8, 12, 0, 0, 0, 0);
        talkIs("so 1;words 5;words 4;loss a;loss s", 1, 0, 0, 4, 0, 0, 0, 0);
        talkIs("so 1;loss s;loss a;two 1 2;two -3 4", 1, 0, 0, 12, 1, 1, -3, 4);
        talkIs("so 1;wish 5;lean 6;wish 7;words 2", 1, 7, 6, 2, 0, 0, 0, 0);
        talkIs("so 1;wish -500;lean -500;two -500 -500", 1, -500, -500, 12, 0, 1, -500, -500);
        talkIs("so 1;wish 500;lean 500;two 500 500", 1, 500, 500, 12, 0, 1, 500, 500);
        talkIs("so 1;two 0 0;words 1", 1, 0, 0, 1, 0, 1, 0, 0);
        talkIs("so 1,2,3,4;wish -0", 4, 0, 0, 12, 0, 0, 0, 0);
        talkIs(TWELVE, 12, 0, 0, 12, 0, 0, 0, 0);
        talkIs(fullRow(), 3, 0, 0, 12, 0, 0, 0, 0);
    }

    private void talkIs(String text, int... want) {
        freshTalk(text);
        for (int what = 0; what < want.length; what++) {
            due(x.talkOf(0, what), want[what]);
        }
    }

    // ---- what the words mean ----

    private void terms() {
        sentence("TALKS", "TALKS have numbers, from 0 on, 8 at most, each read from a ROW of letters:");
        fresh();
        letters(0, 0, "so 1");
        for (int t = 0; t < 8; t++) {
            due(x.talk(0), t);
            due(x.status(0), t + 1);
        }
        due(x.talk(0), -7);
        due(x.talk(0), -7);
        due(x.status(0), 8);
        refusals(0, 0, 0, 0, 0, 0, 2);
        sentence("TALKS", "TRUTHS of a TALK are its ITEMS, numbered from 0 on.");
        freshTalk("so 4,8,9");
        due(x.truth(0, 0, 0), 4);
        due(x.truth(0, 2, 0), 9);
        due(x.truth(0, 3, 0), -5);
        sentence("TALKS", "LOSS of a distance d: d times d (s), or d without its sign (a).");
        freshTalk("so 5;wish 3;lean -2");
        due(talk("so 5;wish -3;lean 2;loss a"), 1);
        due(x.ends(0, 0, 0), 9);
        due(x.ends(0, 3, 3), 0);
        due(x.ends(0, 9, 9), 36);
        due(x.ends(1, 0, 1), 6);
        due(x.ends(1, 7, 8), 0);
        due(x.ends(1, 9, 9), 2);
        due(x.ends(1, 999, 999), 992);
        sentence("TALKS", "THE HEARER likes X and LEAN, THE SPEAKER X and WISH; of THE SECOND (two L W): he likes X "
            + "and L, THE SPEAKER of him X and W. What is done is a number 0 to 999.");
        freshTalk("so 5;wish 500;lean -6;two 500 -6");
        due(x.done(0, 1), 0);
        due(x.ends(0, 0, 999), 506L * 506);
        x.change(0, 1, 500);
        due(x.done(0, 1), 505);
        due(talk("so 999;lean 500"), 1);
        due(x.done(1, 1), 999);
        due(talk("so 999;lean 0"), 2);
        due(x.done(2, 1), 999);
        due(talk("so 0;lean -500"), 3);
        due(x.done(3, 1), 0);
    }

    // ---- promises 9 and 10 ----

    private void promise9() {
        sentence("Promise 9", "A TALK by the ROW in SHELF s: its number.");
        fresh();
        for (int sort = 0; sort < 4; sort++) {
            letters(sort * 7 / 3, sort, "so 1*2,3");
            due(x.talk(sort * 7 / 3), sort);
            due(x.truth(sort, 0, 1), 2);
        }
        x.set(0, 3, '4');
        due(x.truth(0, 0, 0), 1);
        due(x.talk(0), -6);
        due(x.talk(0), -6);
        x.set(0, 7, '9');
        due(x.talk(0), 4);
        due(x.truth(4, 0, 0), 4);
        due(x.element(0, 0), 's');
        due(x.holds(0), 100);
        refusals(0, 0, 0, 0, 0, 2);
        lowestBitsOfLetters();
        faultBeforeRoom();
    }

    private void lowestBitsOfLetters() {
        sentence("MEANINGS", "(As ints: of longs the lowest 32 bits.)");
        fresh();
        letters(0, 3, "so 7");
        x.set(0, 0, (5L << 32) + 's');
        x.set(0, 1, (-1L << 32) + 'o');
        x.set(0, 3, Long.MIN_VALUE + '8');
        due(x.talk(0), 0);
        due(x.truth(0, 0, 0), 8);
        x.set(0, 1, (1L << 31) + 'o');
        due(x.talk(0), -6);
        due(x.fault(), 1);
        letters(1, 0, "so 7");
        x.set(1, 3, '6' + 256);
        due(x.talk(1), 1);
        due(x.truth(1, 0, 0), 6);
        letters(2, 1, "so 7");
        x.set(2, 3, '6' + 256);
        due(x.talk(2), -6);
        due(x.fault(), 3);
        letters(3, 2, "so 7");
        x.set(3, 2, ' ' + 65_536);
        due(x.talk(3), -6);
        due(x.fault(), 2);
        refusals(0, 0, 0, 0, 0, 3);
    }

    private void faultBeforeRoom() {
        sentence("Promise 9", "-6 a FAULT; -7.");
        fresh();
        letters(0, 0, "so 1");
        for (int t = 0; t < 8; t++) {
            x.talk(0);
        }
        letters(1, 0, "so 1;");
        due(x.talk(1), -6);
        due(x.fault(), 5);
        sentence("Details", "fault() is NONE behind a right TALK, also one that is refused.");
        due(x.talk(0), -7);
        due(x.fault(), NONE);
        refusals(0, 0, 0, 0, 0, 1, 1);
    }

    private void promise10() {
        sentence("Promise 10", "The FAULT of the latest talk() that came to a ROW; NONE: it was a TALK, or none yet.");
        fresh();
        due(x.fault(), NONE);
        due(x.talk(0), -3);
        due(x.fault(), NONE);
        x.row(0, 0, 0);
        due(x.talk(0), -6);
        due(x.fault(), 0);
        letters(1, 0, "so 1");
        letters(2, 0, "so 1,1");
        due(x.talk(1), 0);
        due(x.fault(), NONE);
        due(x.talk(2), -6);
        due(x.fault(), 5);
        x.meaning(0, 3, 0, 0);
        x.show(3, 0);
        due(x.talk(3), -2);
        due(x.talk(4), -3);
        due(x.talk(8), -1);
        due(x.talk(-1), -1);
        due(x.fault(), 5);
        due(x.fault(), 5);
        due(x.talk(1), 1);
        due(x.fault(), NONE);
        due(x.talk(4), -3);
        due(x.fault(), NONE);
        refusals(2, 1, 3, 0, 0, 2);
    }

    // ---- promises 11 to 15 ----

    private void promise11() {
        sentence("Promise 11", "Of a TALK: 0 TRUTHS, 1 WISH, 2 LEAN, 3 WORDS, 4 LOSS (0 s, 1 a), 5 whether it has a "
            + "SECOND, 6 what he leans, 7 what THE SPEAKER wishes of him (0, 0 without one).");
        talkIs("so 1,2,3;wish -500;lean 500;words 1;loss a;two -499 499", 3, -500, 500, 1, 1, 1, -499, 499);
        talkIs("so 1;wish 2;lean 3", 1, 2, 3, 12, 0, 0, 0, 0);
        due(x.talkOf(0, -1), FAR - 5);
        due(x.talkOf(0, 8), FAR - 5);
        due(x.talkOf(1, 0), FAR - 5);
        due(x.talkOf(-1, 0), FAR - 5);
        refusals(0, 0, 0, 0, 4);
        fresh();
        for (int t = 0; t < 8; t++) {
            talk("so " + t + ";lean " + t);
        }
        due(x.talkOf(7, 2), 7);
        due(x.talkOf(0, 2), 0);
        due(x.talkOf(8, 2), FAR - 5);
    }

    private void promise12() {
        sentence("Promise 12", "Of a TRUTH: X (what 0), CHANCE (1).");
        freshTalk("so 0*99,10,200*2,999*7");
        int[][] truths = {{0, 99}, {10, 1}, {200, 2}, {999, 7}};
        for (int t = 0; t < 4; t++) {
            due(x.truth(0, t, 0), truths[t][0]);
            due(x.truth(0, t, 1), truths[t][1]);
        }
        due(x.truth(0, 4, 0), -5);
        due(x.truth(0, -1, 0), -5);
        due(x.truth(0, 0, -1), -5);
        due(x.truth(0, 0, 2), -5);
        refusals(0, 0, 0, 0, 4);
        freshTalk(TWELVE);
        due(x.truth(0, 11, 0), 11);
        due(x.truth(0, 12, 0), -5);
    }

    private void promise13() {
        sentence("Promise 13", "DONE by THE HEARER at a set (bits) of TRUTHS.");
        freshTalk(TWELVE);
        due(x.done(0, 1), 0);
        due(x.done(0, 1 << 11), 11);
        due(x.done(0, 4095), 5);
        due(x.done(0, 4096), -1);
        due(x.done(0, 4097), -1);
        due(x.done(0, -1), -1);
        due(x.done(0, MIN + 1), -1);
        due(x.done(0, 0), -6);
        x.change(0, 1, 500);
        due(x.done(0, 4095), 505);
        x.change(0, 0, 500);
        due(x.done(0, 4095), 505);
        x.change(0, 1, -500);
        due(x.done(0, 4095), 0);
        refusals(4, 0, 0, 0, 0, 1);
        leastOfSeveral();
        doneAtWeights();
    }

    private void leastOfSeveral() {
        sentence("TALKS", "DONE by THE HEARER (or THE SECOND) at WEIGHTS of TRUTHS: the number for which the sum of "
            + "WEIGHT times LOSS of (it less what he likes) is least, of several the least.");
        freshTalk("so 0,1,20");
        due(x.done(0, 3), 0);
        due(x.done(0, 7), 7);
        due(talk("so 0,10,20,31;loss a"), 1);
        due(x.done(1, 3), 0);
        due(x.done(1, 6), 10);
        due(x.done(1, 7), 10);
        due(x.done(1, 15), 10);
        due(x.done(1, 14), 20);
        due(talk("so 0,999;loss a;lean -3"), 2);
        due(x.done(2, 3), 0);
        due(x.done(2, 2), 996);
        due(talk("so 0,999;loss a;lean 3"), 3);
        due(x.done(3, 3), 3);
        due(x.done(3, 2), 999);
        due(talk("so 996,999;lean 1"), 4);
        due(x.done(4, 3), 998);
        x.change(4, 1, 2);
        due(x.done(4, 3), 999);
        x.change(4, 1, 1);
        x.change(0, 1, -1);
        due(x.done(0, 3), 0);
        due(x.done(0, 2), 0);
        due(x.done(0, 7), 6);
        due(x.done(4, 1), 997);
    }

    private void doneAtWeights() {
        sentence("TALKS", "At a set of TRUTHS: by their CHANCES.");
        freshTalk("so 0*99,10,100");
        due(x.done(0, 3), 0);
        due(x.done(0, 6), 55);
        x.chance(0, 1, 99);
        due(x.done(0, 3), 5);
        x.chance(0, 1, 98);
        due(x.done(0, 3), 5);
        x.chance(0, 0, 1);
        due(x.done(0, 3), 10);
        x.chance(0, 1, 20);
        due(x.done(0, 3), 10);
        x.chance(0, 1, 19);
        due(x.done(0, 3), 9);
        due(talk("so 0*2,10,20;loss a"), 1);
        due(x.done(1, 7), 0);
        x.chance(1, 0, 1);
        due(x.done(1, 7), 10);
        x.chance(1, 2, 3);
        due(x.done(1, 7), 20);
        x.chance(1, 2, 2);
        due(x.done(1, 7), 10);
    }

    private void promise14() {
        sentence("Promise 14", "WISH (what 0), LEAN (1) of a TALK becomes v (-500 to 500): what it was.");
        freshTalk("so 5;wish 3;lean 4;two 8 9");
        due(x.change(0, 0, 500), 3);
        due(x.change(0, 0, -500), 500);
        due(x.change(0, 1, -500), 4);
        due(x.change(0, 1, 500), -500);
        due(x.change(0, 0, 501), FAR - 6);
        due(x.change(0, 0, -501), FAR - 6);
        due(x.change(0, 1, 501), FAR - 6);
        due(x.change(0, 1, -501), FAR - 6);
        due(x.change(0, 2, 0), FAR - 6);
        due(x.change(0, -1, 0), FAR - 6);
        due(x.change(1, 0, 0), FAR - 1);
        due(x.change(-1, 0, 0), FAR - 1);
        int[] want = {1, -500, 500, 12, 0, 1, 8, 9};
        for (int what = 0; what < 8; what++) {
            due(x.talkOf(0, what), want[what]);
        }
        due(x.change(0, 0, -1), -500);
        due(x.change(0, 0, 0), -1);
        due(x.change(0, 1, 0), 500);
        due(x.change(0, 1, 0), 0);
        refusals(2, 0, 0, 0, 0, 6);
        fresh();
        letters(0, 0, "so 5");
        for (int t = 0; t < 8; t++) {
            x.talk(0);
        }
        due(x.change(7, 1, 9), 0);
        due(x.change(6, 1, 8), 0);
        due(x.talkOf(7, 2), 9);
        due(x.talkOf(0, 2), 0);
        due(x.change(8, 1, 9), FAR - 1);
    }

    private void promise15() {
        sentence("Promise 15", "CHANCE of a TRUTH becomes v: what it was.");
        freshTalk("so 5*99,6,7*2");
        due(x.chance(0, 0, 1), 99);
        due(x.chance(0, 0, 99), 1);
        due(x.chance(0, 2, 50), 2);
        due(x.chance(0, 0, 0), -6);
        due(x.chance(0, 0, 100), -6);
        due(x.chance(0, 3, 5), -1);
        due(x.chance(0, -1, 5), -1);
        due(x.chance(1, 0, 5), -1);
        due(x.chance(0, 3, 0), -1);
        due(x.truth(0, 0, 1), 99);
        due(x.truth(0, 1, 1), 1);
        due(x.truth(0, 2, 1), 50);
        due(x.truth(0, 0, 0), 5);
        refusals(4, 0, 0, 0, 0, 2);
        freshTalk(TWELVE);
        due(x.chance(0, 11, 9), 1);
        due(x.truth(0, 11, 1), 9);
        due(x.chance(0, 12, 9), -1);
    }
}
