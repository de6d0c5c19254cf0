/** Boundary cases of ENDS, of two who know the same, and of DRAWN RUNS: promises 35 to 40. */
final class OtherEdges extends Edges {
    OtherEdges(Checks checks, Document document) {
        super(checks, document);
    }

    @Override
    void run() {
        ends();
        greatEnds();
        bestEnds();
        leave();
        agree();
        agreeFirst();
        still();
        drawSeeds();
        drawLots();
        drawBlurred();
        drawPlaces();
    }

    // ---- ENDS ----

    private void ends() {
        sentence("Promise 35", "LOSS of ENDS.");
        sentence("WHAT CAN BE SAID", "ENDS A, B (A no more than B): who knows decides: what THE SPEAKER likes, kept "
            + "within A and B. LOSS of ENDS: the sum over TRUTHS of CHANCE times LOSS of (that less what THE HEARER "
            + "likes).");
        freshTalk("so 5*3,10;wish 2;lean -1");
        long[][] lost = {{0, 999, 36}, {0, 0, 129}, {0, 6, 21}, {0, 7, 31}, {0, 11, 31}, {0, 12, 36}, {7, 7, 31},
            {8, 8, 49}, {7, 12, 36}, {8, 12, 57}, {12, 12, 201}, {999, 999, 3 * 995 * 995 + 990 * 990}};
        for (long[] one : lost) {
            due(x.ends(0, (int) one[0], (int) one[1]), one[2]);
        }
        x.change(0, 0, -500);
        due(x.ends(0, 0, 999), 129);
        due(x.ends(0, 4, 999), 25);
        x.change(0, 0, 500);
        due(x.ends(0, 0, 9), 75);
        due(x.ends(0, 1, 0), FAR - 5);
        due(x.ends(0, 999, 998), FAR - 5);
        due(x.ends(0, -1, 0), FAR - 5);
        due(x.ends(0, -1, -1), FAR - 5);
        due(x.ends(0, 0, 1000), FAR - 5);
        due(x.ends(0, 1000, 1000), FAR - 5);
        due(x.ends(1, 0, 0), FAR - 5);
        due(x.ends(-1, 0, 0), FAR - 5);
        refusals(0, 0, 0, 0, 8);
    }

    private void greatEnds() {
        freshTalk("so 988,989,990,991,992,993,994,995,996,997,998,999;lean 500");
        long want = 0;
        for (int t = 0; t < 12; t++) {
            x.chance(0, t, 99);
            want += 99L * (1488 + t) * (1488 + t);
        }
        due(x.ends(0, 0, 0), want);
        that("it is more than an int holds", want > MAX);
    }

    private void bestEnds() {
        sentence("Promise 36", "BEST ENDS: 1,000 times A and B.");
        sentence("WHAT CAN BE SAID", "BEST ENDS: A and B each what THE SPEAKER or THE HEARER likes at some TRUTH, kept "
            + "within 0 and 999: of the least LOSS, of several the least A, then the least B.");
        String[] texts = {"so 5", "so 0", "so 999", "so 7;lean -500;wish 3", "so 990;wish 500;lean 500",
            "so 7;lean -500;wish -500", "so 5,9", "so 5,9;wish 3", "so 5,9;wish -3", "so 5*9,9;wish 3",
            "so 5,9*9;wish -3", "so 0,10;wish 10;loss a", "so 5;wish 9",
            "so 0,10,20;wish 3", "so 0,10,20;wish -3", TWELVE + ";wish 3", "so 500,510;wish 6", "so 500,510;wish -6",
            "so 1,6,18;wish 9", "so 3,9;wish 5", "so 21,33,38;wish -9"};
        int[] best = {5005, 0, 999_999, 0, 999_999, 0, 5009, 5009, 5006, 5005, 9009, 0, 5005,
            20, 17, 8, 500_510, 500_504, 1010, 3009, 29_029};
        for (int i = 0; i < texts.length; i++) {
            freshTalk(texts[i]);
            due(x.bestEnds(0), best[i]);
            due(x.bestEnds(1), -1);
            due(x.bestEnds(-1), -1);
            refusals(2);
        }
    }

    private void leave() {
        sentence("Promise 37", "Whether the LOSS of the BEST ENDS is less than WORTH for THE HEARER of the BEST RUN for "
            + "him: 1, 0.");
        freshTalk("so 0,10;wish 9;loss a");
        due(x.leave(0), 1);
        x.change(0, 0, 10);
        due(x.leave(0), 0);
        x.change(0, 0, 11);
        due(x.leave(0), 0);
        x.change(0, 0, 5);
        due(x.leave(0), 0);
        x.change(0, 0, 6);
        due(x.leave(0), 1);
        due(talk("so 5"), 1);
        due(x.leave(1), 0);
        due(talk("so 7;lean -500;wish 3"), 2);
        due(x.leave(2), 0);
        due(talk("so 0,4;wish 3"), 3);
        due(x.leave(3), 0);
        due(talk("so 500,510;wish -9;loss a"), 4);
        due(x.leave(4), 1);
        due(talk("so 500,510;wish 9;loss a"), 5);
        due(x.leave(5), 1);
        due(x.leave(6), -1);
        due(x.leave(-1), -1);
        refusals(2);
    }

    // ---- AGREED ----

    private void agree() {
        sentence("Promise 38", "AGREED with one of a WISH (-500 to 500); NONE: all.");
        freshTalk("so 0,9;wish 500");
        due(x.agree(0, 500), NONE);
        due(x.agree(0, -500), 100);
        due(x.talkOf(0, 1), 500);
        x.change(0, 0, -500);
        due(x.agree(0, 500), 1);
        due(x.agree(0, -500), NONE);
        due(talk("so 5;wish 500"), 1);
        due(x.agree(1, -500), NONE);
        x.change(1, 0, -500);
        due(x.agree(1, 500), NONE);
        due(x.agree(1, 501), -16);
        due(x.agree(1, -501), -16);
        due(x.agree(2, 0), -11);
        due(x.agree(2, 501), -11);
        due(x.agree(-1, 0), -11);
        refusals(3, 0, 0, 0, 0, 2);
        sentence("WHAT CAN BE SAID", "is there something to be done (0 to 999) by which, if u is so, THE SPEAKER loses no "
            + "less than by what is DONE at u alone, and, if t is so, the other one no less than by what is DONE at t "
            + "alone?");
        freshTalk("so 400,600;wish 300");
        due(x.agree(0, -300), NONE);
        due(x.agree(0, -301), 100);
        x.change(0, 0, 299);
        due(x.agree(0, -301), NONE);
        x.change(0, 0, 300);
        x.change(0, 1, 1);
        due(x.agree(0, -300), NONE);
        x.change(0, 0, 301);
        due(x.agree(0, -300), 100);
        due(x.agree(0, -299), NONE);
        due(talk("so 10,20;wish -8"), 1);
        due(x.agree(1, 492), NONE);
        agreeAtTheEnds();
    }

    /** What is DONE alone is 0 or 999, though less or more is liked, and that is all that can be done. */
    private void agreeAtTheEnds() {
        freshTalk("so 0,500;lean -100;wish 500");
        due(x.agree(0, 200), NONE);
        due(x.agree(0, 499), NONE);
        x.change(0, 0, 200);
        due(x.agree(0, 500), NONE);
        due(talk("so 499,999;lean 100;wish -500"), 1);
        due(x.agree(1, -200), NONE);
        x.change(1, 0, -200);
        due(x.agree(1, -500), NONE);
    }

    private void agreeFirst() {
        sentence("WHAT CAN BE SAID", "AGREED with another one who knows the same and has a WISH of his own: for each two "
            + "TRUTHS t (that THE SPEAKER tells), u (the other one) that are unlike,");
        sentence("WHAT CAN BE SAID", "The first t, for it the first u for which there is none: 100 t and u; NONE: all.");
        freshTalk("so 0,1,2");
        x.change(0, 0, -500);
        due(x.agree(0, 500), 1);
        x.change(0, 0, 500);
        due(x.agree(0, -500), 100);
        due(talk("so 0,100,200;wish 460"), 1);
        due(x.agree(1, -101), 201);
        due(x.agree(1, -100), NONE);
        x.change(1, 0, 450);
        due(x.agree(1, -101), 201);
        x.change(1, 0, 449);
        due(x.agree(1, -101), NONE);
        due(talk(TWELVE + ";wish -500"), 2);
        due(x.agree(2, 500), 1);
        due(x.agree(2, 495), 1011);
        due(x.agree(2, 494), NONE);
        due(x.agree(2, -500), NONE);
    }

    // ---- still() and DRAWN RUNS ----

    private void still() {
        sentence("Promise 39", "Which MEANINGS HOLD now (bits).");
        fresh();
        due(x.still(), 0);
        due(talk("so 0,10;wish 6"), 0);
        due(x.still(), 0);
        for (int m = 0; m < 12; m++) {
            due(x.meaning(0, m < 11 ? 4 : 3, 0, 0), m);
            due(x.still(), m < 11 ? 0 : 2048);
        }
        x.change(0, 0, 5);
        due(x.still(), 4095);
        due(x.status(2), 12);
        x.change(0, 0, -6);
        due(x.still(), 2048);
        due(x.status(2), 1);
        x.change(0, 1, -1);
        due(x.still(), 2048);
        x.change(0, 1, -500);
        due(x.still(), 4095);
        refusals();
        freshTalk("so 0,10");
        due(byWords(0, 5, 0, 1, 1), 0);
        due(x.still(), 0);
        x.tell(0, 1, 5);
        due(x.still(), 1);
        x.chance(0, 0, 2);
        due(x.still(), 0);
    }

    /** Numbers of seeds by 2: of 1: 0 0 1 1 1 1 0 1 0; of 0: 0 0 0 1 0 1 1 1 0; of -1: 1 1 0 0 1 0 0 1 0. */
    private void drawSeeds() {
        sentence("Promise 40", "DRAWN RUN of a MEANING by a seed, n (1 to 200) times: the sum of LOSS of THE HEARER.");
        sentence("WHAT CAN BE SAID", "DRAWN RUN: n times a TRUTH is drawn: a number z, first the seed (its lowest 31 "
            + "bits), becomes z times 1,103,515,245 and 12,345, of that the lowest 31 bits;");
        freshTalk("so 0,10;loss a");
        due(x.meaning(0, 3, 0, 0), 0);
        int[][] sums = {{1, 1, 0}, {1, 2, 0}, {1, 3, 10}, {1, 7, 40}, {1, 9, 50}, {MIN + 1, 7, 40}, {0, 3, 0},
            {0, 4, 10}, {0, 9, 40}, {MIN, 4, 10}, {MIN, 9, 40}, {-1, 1, 10}, {-1, 2, 20}, {-1, 9, 40}, {MAX, 1, 10},
            {MAX, 9, 40}};
        for (int[] sum : sums) {
            due(x.draw(0, sum[0], sum[1]), sum[2]);
        }
        due(x.draw(0, 1, 0), FAR - 5);
        due(x.draw(0, 1, -1), FAR - 5);
        due(x.draw(0, 1, 201), FAR - 5);
        due(x.draw(1, 1, 1), FAR - 5);
        due(x.draw(-1, 1, 1), FAR - 5);
        due(talk("so 0;lean -2"), 1);
        due(x.meaning(1, 4, 0, 0), 1);
        due(x.draw(1, 77, 200), 800);
        due(x.draw(1, 77, 199), 796);
        due(x.draw(1, 77, 1), 4);
        due(talk("so 999;lean 500"), 2);
        due(x.meaning(2, 4, 0, 0), 2);
        due(x.draw(2, 5, 200), 200 * 250_000);
        refusals(0, 0, 0, 0, 5);
    }

    /** Of seed 1 by 4: 2 2 1 3. */
    private void drawLots() {
        sentence("WHAT CAN BE SAID", "z by 65,536 (cut) modulo the sum of CHANCES tells it (CHANCES one behind the "
            + "other); its word is said");
        freshTalk("so 0*3,10;loss a");
        due(x.meaning(0, 3, 0, 0), 0);
        due(x.draw(0, 1, 3), 0);
        due(x.draw(0, 1, 4), 10);
        due(talk("so 0*2,10,20;loss a"), 1);
        due(byWords(1, 5, 0, 0, 1, 2), 1);
        due(x.draw(1, 1, 1), 10);
        due(x.draw(1, 1, 2), 20);
        due(x.draw(1, 1, 3), 20);
        due(x.draw(1, 1, 4), 40);
        sentence("WHAT CAN BE SAID", "THE HEARER does its ACT.");
        x.tell(1, 0, 3);
        x.tell(1, 1, 15);
        x.tell(1, 2, 999);
        due(x.draw(1, 1, 1), 5);
        due(x.draw(1, 1, 3), 13);
        due(x.draw(1, 1, 4), 13 + 979);
    }

    /** Numbers of the seed 1: 16838 5758 10113 17515 31051 5627 23010. */
    private void drawBlurred() {
        sentence("WHAT CAN BE SAID", "(of BLUR ones: z becomes so again: if z by 65,536 modulo 100 isn't below CLEAR, z "
            + "becomes so once more, and z by 65,536 modulo USED is the place of the word that comes among USED ones);");
        freshTalk("so 0,10;loss a");
        due(byWords(0, 2, 58, 4, 9), 0);
        due(byWords(0, 2, 59, 4, 9), 1);
        due(byWords(0, 2, 58, 9, 4), 2);
        due(x.draw(0, 1, 1), 10);
        due(x.draw(1, 1, 1), 0);
        due(x.draw(2, 1, 1), 0);
        freshTalk("so 0,10;loss a;lean -10");
        int[] clears = {100, 0};
        int[][] sums = {{10, 10, 10, 20}, {10, 10, 20}, {10, 20, 20, 20, 20, 20, 30}};
        for (int m = 0; m < 3; m++) {
            due(m < 2 ? byWords(0, 2, clears[m], 0, 1) : byWords(0, 0, 0, 0, 1), m);
            for (int n = 1; n <= sums[m].length; n++) {
                due(x.draw(m, 1, n), sums[m][n - 1]);
            }
        }
        due(byWords(0, 2, 0, 5, 5), 3);
        due(x.draw(3, 1, 3), 20);
    }

    /** Words 3, 7 and 11 are USED: the place of seed 1 is the first, that of the word 3. */
    private void drawPlaces() {
        freshTalk("so 0,10,20;loss a");
        due(byWords(0, 2, 58, 11, 3, 7), 0);
        due(byWords(0, 2, 59, 11, 3, 7), 1);
        due(byWords(0, 2, 58, 3, 11, 7), 2);
        due(byWords(0, 2, 58, 7, 11, 3), 3);
        due(x.draw(0, 1, 1), 10);
        due(x.draw(1, 1, 1), 0);
        due(x.draw(2, 1, 1), 20);
        due(x.draw(3, 1, 1), 0);
        freshTalk("so 0,10;loss a");
        due(byWords(0, 2, 58, 0, 5), 0);
        due(byWords(0, 2, 58, 5, 0), 1);
        due(byWords(0, 2, 58, 0, 11), 2);
        due(byWords(0, 2, 58, 11, 0), 3);
        int[] sums = {10, 0, 10, 0};
        for (int m = 0; m < 4; m++) {
            due(x.draw(m, 1, 1), sums[m]);
        }
        refusals();
    }
}
