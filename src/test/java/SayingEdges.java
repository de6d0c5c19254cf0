import java.util.ArrayList;
import java.util.List;

/** Boundary cases of WHAT CAN BE SAID in a TALK: promises 26 to 34. */
final class SayingEdges extends Edges {
    /** All acts are 0, so that all RUNS hold and are of one WORTH. */
    private static final String ALIKE = TWELVE + ";lean -500;two -500 9;words ";

    SayingEdges(Checks checks, Document document) {
        super(checks, document);
    }

    @Override
    void run() {
        runs();
        finest();
        bound();
        best();
        any();
        edge();
        edgeFromTo();
        room();
        roomTies();
        doors();
        middle();
        middleTies();
        talksApart();
    }

    private void runs() {
        sentence("Promise 26", "How many RUNS HOLD.");
        sentence("WHAT CAN BE SAID", "RUNS of a TALK: all PARTS ones with no more words than WORDS.");
        int[][] limits = {{1, 1}, {2, 12}, {6, 1024}, {11, 2047}, {12, 2048}};
        for (int[] limit : limits) {
            freshTalk(ALIKE + limit[0]);
            due(x.runs(0), limit[1]);
        }
        freshTalk("so 5;wish 500");
        due(x.runs(0), 1);
        due(talk("so 0,10;wish 5"), 1);
        due(x.runs(1), 2);
        x.change(1, 0, 6);
        due(x.runs(1), 1);
        x.change(1, 0, -5);
        due(x.runs(1), 2);
        x.change(1, 0, -6);
        due(x.runs(1), 1);
        due(talk("so 0,6*4,12;wish 2;loss a;words 2"), 2);
        due(x.runs(2), 3);
        due(x.runs(3), -1);
        due(x.runs(-1), -1);
        refusals(2);
    }

    private void finest() {
        sentence("Promise 27", "CUTS of the FINEST.");
        sentence("WHAT CAN BE SAID", "FINEST: of RUNS that HOLD one of most words, of several that of the least CUTS "
            + "(as a number).");
        int[][] limits = {{1, 0}, {2, 1}, {3, 3}, {6, 31}, {11, 1023}, {12, 2047}};
        for (int[] limit : limits) {
            freshTalk(ALIKE + limit[0]);
            due(x.finest(0), limit[1]);
        }
        freshTalk("so 5");
        due(x.finest(0), 0);
        due(talk("so 0,10;wish 6"), 1);
        due(x.finest(1), 0);
        x.change(1, 0, 5);
        due(x.finest(1), 1);
        due(talk("so 0,1,2;loss a;words 2"), 2);
        due(x.finest(2), 1);
        due(talk("so 0,6,8;wish -1;loss a;words 2"), 3);
        due(x.finest(3), 1);
        due(talk("so 2,3*4,5;wish -1;loss a"), 4);
        due(x.finest(4), 2);
        due(x.finest(5), -1);
        due(x.finest(-1), -1);
        refusals(2);
    }

    private void bound() {
        sentence("Promise 28", "BOUND.");
        sentence("WHAT CAN BE SAID", "BOUND: the number of words of the FINEST.");
        for (int limit = 1; limit <= 12; limit++) {
            freshTalk(ALIKE + limit);
            due(x.bound(0), limit);
        }
        freshTalk("so 5;wish -500");
        due(x.bound(0), 1);
        due(talk("so 0,10,20;wish 5"), 1);
        due(x.bound(1), 3);
        x.change(1, 0, 6);
        due(x.bound(1), 2);
        x.change(1, 0, 500);
        due(x.bound(1), 1);
        due(x.bound(2), -1);
        due(x.bound(-1), -1);
        refusals(2);
    }

    private void best() {
        sentence("Promise 29", "CUTS of the BEST for a side (0, 1).");
        sentence("WHAT CAN BE SAID", "BEST for a side: of RUNS that HOLD that of the least WORTH, of several the least "
            + "CUTS.");
        freshTalk("so 0,6*4,12;wish 2;loss a;words 2");
        due(x.best(0, 0), 1);
        due(x.best(0, 1), 2);
        due(talk("so 2,3,8*4;wish 3;loss a;words 2"), 1);
        due(x.best(1, 0), 1);
        due(x.best(1, 1), 0);
        due(talk("so 0,4,6,10*3;wish -3;loss a"), 2);
        due(x.best(2, 0), 4);
        due(x.best(2, 1), 0);
        due(talk("so 5"), 3);
        due(x.best(3, 0), 0);
        due(x.best(3, 1), 0);
        due(x.best(0, 2), -6);
        due(x.best(0, -1), -6);
        due(x.best(4, 0), -1);
        due(x.best(-1, 1), -1);
        due(x.best(4, 2), -1);
        refusals(3, 0, 0, 0, 0, 2);
        for (int limit = 1; limit <= 12; limit += 11) {
            freshTalk(ALIKE + limit);
            due(x.best(0, 0), 0);
            due(x.best(0, 1), 0);
        }
        freshTalk(TWELVE);
        due(x.best(0, 0), 2047);
        due(x.best(0, 1), 2047);
    }

    private void any() {
        sentence("Promise 30", "ANY.");
        sentence("WHAT CAN BE SAID", "ANY: all ways to part the TRUTHS (6 at most) in words, as many as WORDS at most "
            + "(what they are called doesn't matter), that HOLD: how many.");
        int[] ways = {0, 1, 32, 122, 187, 202, 203, 203, 203, 203, 203, 203, 203};
        for (int limit = 1; limit <= 12; limit++) {
            freshTalk("so 0,1,2,3,4,5;lean -500;words " + limit);
            due(x.any(0), ways[limit]);
        }
        freshTalk("so 0,1,2,3,4,5,6;lean -500");
        due(x.any(0), -6);
        due(talk("so 7;wish 500"), 1);
        due(x.any(1), 1);
        due(talk("so 0,10;wish 5"), 2);
        due(x.any(2), 2);
        x.change(2, 0, 6);
        due(x.any(2), 1);
        due(talk("so 2,6*3,20;wish 2;lean 1;loss a"), 3);
        due(x.any(3), 4);
        due(talk(TWELVE), 4);
        due(x.any(4), -6);
        due(x.any(5), -1);
        due(x.any(-1), -1);
        refusals(2, 0, 0, 0, 0, 2);
        String[] texts = {"so 10,20,30,40", "so 0,10,20,30;words 3", "so 0,10,20,30;words 2", "so 0,10,20,30;wish 4",
            "so 3,4,20,21,40,60;wish 1", "so 0,1,2,3,4,5", "so 0,1,2,3,4,5;loss a"};
        int[] hold = {11, 10, 5, 7, 9, 46, 27};
        for (int i = 0; i < texts.length; i++) {
            freshTalk(texts[i]);
            due(x.any(0), hold[i]);
        }
    }

    private void edge() {
        sentence("Promise 31", "EDGE (NONE: none).");
        freshTalk("so 0,10;wish 500");
        due(x.edge(0, 1), 63);
        due(x.edge(0, 2), 5);
        due(x.edge(0, 3), NONE);
        due(x.edge(0, 12), NONE);
        due(x.talkOf(0, 1), 500);
        due(x.edge(0, 0), -16);
        due(x.edge(0, 13), -16);
        due(x.edge(0, -1), -16);
        due(x.edge(1, 1), -11);
        due(x.edge(-1, 0), -11);
        refusals(2, 0, 0, 0, 0, 3);
        for (int limit = 1; limit <= 12; limit++) {
            freshTalk(ALIKE + limit);
            due(x.edge(0, limit), 63);
            due(x.edge(0, limit + 1), limit < 12 ? NONE : -16);
        }
        freshTalk(TWELVE);
        due(x.edge(0, 12), 0);
        due(x.edge(0, 1), 63);
        due(talk("so 5;wish -500"), 1);
        due(x.edge(1, 1), 63);
        due(x.edge(1, 2), NONE);
    }

    private void edgeFromTo() {
        sentence("WHAT CAN BE SAID", "EDGE of k words: the greatest WISH from 0 to 63 by which (instead of the TALK's) "
            + "some RUN of k words HOLDS; NONE.");
        int[][] gaps = {{1, 0}, {2, 1}, {3, 1}, {124, 62}, {125, 62}, {126, 63}, {127, 63}, {128, 63}, {999, 63}};
        for (int[] gap : gaps) {
            for (String loss : new String[] {"s", "a"}) {
                freshTalk("so 0," + gap[0] + ";loss " + loss);
                due(x.edge(0, 2), gap[1]);
            }
        }
        freshTalk("so 0,10");
        int[][] leans = {{58, 63}, {57, 62}, {68, 63}, {69, NONE}, {500, NONE}, {-5, 2}, {-10, 63}, {-500, 63}};
        for (int[] lean : leans) {
            x.change(0, 1, lean[0]);
            due(x.edge(0, 2), lean[1]);
        }
        due(talk("so 0,11"), 1);
        x.change(1, 1, 68);
        due(x.edge(1, 2), 63);
        x.change(1, 1, 69);
        due(x.edge(1, 2), NONE);
        due(talk("so 100,101;lean -40"), 2);
        due(x.edge(2, 2), NONE);
        x.change(2, 1, -1);
        due(x.edge(2, 2), NONE);
        x.change(2, 1, 0);
        due(x.edge(2, 2), 0);
        due(talk("so 0,1,100"), 3);
        due(x.edge(3, 2), 49);
        due(x.edge(3, 3), 0);
    }

    private void room() {
        sentence("Promise 32", "ROOM.");
        sentence("WHAT CAN BE SAID", "ROOM (of a TALK with a SECOND): RUNS that both hear: HOLD by THE SPEAKER's REGRET "
            + "for both together (each one's ACT by himself): the most words of one that HOLDS.");
        for (int limit = 1; limit <= 12; limit++) {
            freshTalk(ALIKE + limit);
            due(x.room(0), limit);
        }
        freshTalk("so 0,10");
        due(x.room(0), -6);
        due(talk("so 0,10;two 0 0"), 1);
        due(x.room(1), 2);
        due(talk("so 5;wish 500;two -500 500"), 2);
        due(x.room(2), 1);
        due(x.room(3), -1);
        due(x.room(-1), -1);
        refusals(2, 0, 0, 0, 0, 1);
    }

    private void roomTies() {
        freshTalk("so 0,10;two 0 6");
        int[][] wishes = {{4, 2}, {5, 1}, {-6, 2}, {-16, 2}, {-17, 1}};
        for (int[] wish : wishes) {
            x.change(0, 0, wish[0]);
            due(x.room(0), wish[1]);
        }
        int[][] seconds = {{5, 2}, {10, 2}, {11, 1}, {-10, 2}, {-11, 1}};
        for (int i = 0; i < seconds.length; i++) {
            due(talk("so 0,10;wish 100;lean 100;two 0 " + seconds[i][0]), i + 1);
            due(x.room(i + 1), seconds[i][1]);
        }
        due(talk("so 0,10;two 100 110"), 6);
        due(x.room(6), 2);
        due(talk("so 0,10;two 100 111"), 7);
        due(x.room(7), 1);
        freshTalk("so 0,10;loss a;wish 5;two 0 5");
        due(x.room(0), 2);
        x.change(0, 0, 6);
        due(x.room(0), 1);
    }

    private void doors() {
        sentence("Promise 33", "DOORS.");
        sentence("WHAT CAN BE SAID", "DOORS: 100 times the most words of a RUN that HOLDS for THE SECOND alone and that "
            + "for THE HEARER alone.");
        for (int limit = 1; limit <= 12; limit++) {
            freshTalk(ALIKE + limit);
            due(x.doors(0), 101 * limit);
        }
        freshTalk("so 0,10;wish 5;two 0 6");
        due(x.doors(0), 102);
        x.change(0, 0, 6);
        due(x.doors(0), 101);
        due(talk("so 0,10;wish 6;two 0 5"), 1);
        due(x.doors(1), 201);
        due(talk("so 0,10;lean 95;two 0 -5"), 2);
        due(x.doors(2), 201);
        due(talk("so 0,10;two 5 0"), 3);
        due(x.doors(3), 202);
        due(talk("so 0,10;two 6 0"), 4);
        due(x.doors(4), 102);
        due(talk("so 5"), 5);
        due(x.doors(5), -6);
        due(x.doors(6), -1);
        due(x.doors(-1), -1);
        refusals(2, 0, 0, 0, 0, 1);
    }

    private void middle() {
        sentence("Promise 34", "MIDDLEMAN for k words (1 to 12): CLEAR (what 0), CUTS (1); NONE: none HOLDS.");
        freshTalk("so 0,10");
        middleIs(0, 1, 100, 0);
        middleIs(0, 2, 100, 1);
        middleIs(0, 3, NONE, NONE);
        middleIs(0, 12, NONE, NONE);
        due(talk("so 0,10;words 1"), 1);
        middleIs(1, 1, 100, 0);
        middleIs(1, 2, NONE, NONE);
        due(talk("so 7;wish 500"), 2);
        middleIs(2, 1, 100, 0);
        middleIs(2, 2, NONE, NONE);
        due(x.middle(0, 0, 0), -16);
        due(x.middle(0, 13, 0), -16);
        due(x.middle(0, -1, 1), -16);
        due(x.middle(0, 2, -1), -16);
        due(x.middle(0, 2, 2), -16);
        due(x.middle(3, 2, 0), -11);
        due(x.middle(-1, 13, 2), -11);
        refusals(2, 0, 0, 0, 0, 5);
        for (int limit = 1; limit <= 12; limit++) {
            freshTalk(ALIKE + limit);
            middleIs(0, limit, 100, (1 << limit - 1) - 1);
            if (limit < 12) {
                middleIs(0, limit + 1, NONE, NONE);
            }
        }
    }

    private void middleIs(int talk, int k, int clear, int cuts) {
        due(x.middle(talk, k, 0), clear);
        due(x.middle(talk, k, 1), cuts);
    }

    private void middleTies() {
        sentence("WHAT CAN BE SAID", "MIDDLEMAN for k words: of CLEAR 0, 5, 10, .. 100 and RUNS of k words, as BLUR "
            + "ones, that HOLD: that of the least WORTH for THE HEARER by 100 times k (cut), of several the greatest "
            + "CLEAR, of these the least CUTS.");
        freshTalk("so 0,100;wish 500");
        middleIs(0, 2, 0, 1);
        due(talk("so 0,10;wish 6"), 1);
        middleIs(1, 2, 5, 1);
        due(talk("so 0,1,2;lean -9"), 2);
        middleIs(2, 2, 100, 1);
        middleIs(2, 3, 100, 3);
        sentence("Details", "WORTHS for THE HEARER are compared as they are cut.");
        due(talk("so 0,4,9*3;wish 2;loss a"), 3);
        middleIs(3, 2, 95, 2);
        due(talk("so 0,2,4,7*3;wish 1;loss a"), 4);
        middleIs(4, 3, 95, 5);
        due(talk("so 0,1*2,5,7;wish 2;loss a"), 5);
        middleIs(5, 3, 50, 6);
        middleOneByOne();
    }

    /** Each of these would be another one by another side, size, cut, step or order. */
    private void middleOneByOne() {
        String[] texts = {"so 1,3,9;wish 6", "so 1*3,6,7,14;wish 3", "so 1,2,10*3,16;wish 3;loss a",
            "so 0,4,7,13;wish 5;loss a", "so 1,8,16*2;wish 3;loss a", "so 1,7,10,17;wish 1",
            "so 0,4*2,12,17;wish 3;loss a", "so 1,5*2,12,16;wish 3;loss a", "so 1,7,14*2,22;wish 1;loss a"};
        int[][] middles = {{2, 5, 1}, {3, 10, 5}, {2, 100, 2}, {3, 0, 3}, {2, 95, 2}, {2, 100, 4}, {3, 50, 6},
            {3, 45, 3}, {2, 95, 2}};
        for (int i = 0; i < texts.length; i++) {
            freshTalk(texts[i]);
            middleIs(0, middles[i][0], middles[i][1], middles[i][2]);
        }
    }

    private List<Long> allOf(int talk, int truths) {
        List<Long> all = new ArrayList<>(List.of((long) x.runs(talk), (long) x.finest(talk), (long) x.bound(talk),
            (long) x.any(talk), (long) x.room(talk), (long) x.doors(talk), (long) x.bestEnds(talk),
            (long) x.leave(talk), (long) x.done(talk, 1), x.ends(talk, 3, 9)));
        for (int k = 1; k <= truths + 1; k++) {
            all.add((long) x.edge(talk, k));
            all.add((long) x.middle(talk, k, 0));
            all.add((long) x.middle(talk, k, 1));
        }
        for (int side = 0; side < 2; side++) {
            all.add((long) x.best(talk, side));
            all.add(x.beside(talk, side));
            all.add((long) x.agree(talk, 1000 * side - 500));
        }
        return all;
    }

    /** What is told of a TALK has nothing to do with the TRUTHS of a greater one that was asked of before. */
    private void talksApart() {
        sentence("TALKS", "TRUTHS of a TALK are its ITEMS, numbered from 0 on.");
        String[] great = {TWELVE + ";two 1 1;wish 1", "so 0,1,2,3,4,5;two 1 -1", "so 1,5,30,31,70,400;wish -500"};
        String[] small = {"so 7;wish 9;two 3 3", "so 20,30;wish 5;two 0 5", "so 11,13,20;wish -1;two 0 -1",
            "so 50,54,60,77;wish -500;two 2 1", "so 30,41*2,53;wish 3;loss a;two 0 2"};
        int[] truths = {1, 2, 3, 4, 3};
        for (int i = 0; i < small.length; i++) {
            freshTalk(small[i]);
            List<Long> alone = allOf(0, truths[i]);
            for (String text : great) {
                freshTalk(text);
                due(x.meaning(0, 4, 0, 0), 0);
                due(talk(small[i]), 1);
                allOf(0, 1);
                x.judge(0);
                List<Long> behind = allOf(1, truths[i]);
                that(small[i] + " alone: " + alone + ", behind " + text + ": " + behind, alone.equals(behind));
            }
        }
    }
}
