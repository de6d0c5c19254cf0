/**
 * A new object of the class that counts its calls, since past the 512th its answers are free, and that can tell
 * its latest call.
 */
final class Counted {
    private static final int MOST_CALLS = 512;
    private static final Object[] NO_NUMBERS = {};
    private final SaidForNothing x = new SaidForNothing();
    private int calls = 0;
    private String lastName = "new";
    private Object[] lastNumbers = NO_NUMBERS;

    private SaidForNothing of(String name, Object... numbers) {
        calls++;
        lastName = name;
        lastNumbers = numbers;
        return x;
    }

    String last() {
        StringBuilder told = new StringBuilder(lastName).append('(');
        for (int i = 0; i < lastNumbers.length; i++) {
            told.append(i == 0 ? "" : ", ").append(lastNumbers[i]);
        }
        return told.append(')').toString();
    }

    int calls() {
        return calls;
    }

    boolean usedTooLong() {
        return calls > MOST_CALLS;
    }

    int row(int s, int sort, int n) {
        return of("row", s, sort, n).row(s, sort, n);
    }

    int set(int s, int i, long v) {
        return of("set", s, i, v).set(s, i, v);
    }

    int copy(int p, int q, int i, int j, int n) {
        return of("copy", p, q, i, j, n).copy(p, q, i, j, n);
    }

    long element(int s, int i) {
        return of("element", s, i).element(s, i);
    }

    int show(int s, int meaning) {
        return of("show", s, meaning).show(s, meaning);
    }

    int holds(int s) {
        return of("holds", s).holds(s);
    }

    int says(int s, int kind) {
        return of("says", s, kind).says(s, kind);
    }

    int talk(int s) {
        return of("talk", s).talk(s);
    }

    int fault() {
        return of("fault").fault();
    }

    int talkOf(int talk, int what) {
        return of("talkOf", talk, what).talkOf(talk, what);
    }

    int truth(int talk, int truth, int what) {
        return of("truth", talk, truth, what).truth(talk, truth, what);
    }

    int done(int talk, int set) {
        return of("done", talk, set).done(talk, set);
    }

    int change(int talk, int what, int v) {
        return of("change", talk, what, v).change(talk, what, v);
    }

    int chance(int talk, int truth, int v) {
        return of("chance", talk, truth, v).chance(talk, truth, v);
    }

    int meaning(int talk, int kind, int s, int more) {
        return of("meaning", talk, kind, s, more).meaning(talk, kind, s, more);
    }

    int tell(int meaning, int word, int v) {
        return of("tell", meaning, word, v).tell(meaning, word, v);
    }

    int meaningOf(int meaning, int what) {
        return of("meaningOf", meaning, what).meaningOf(meaning, what);
    }

    int word(int meaning, int truth) {
        return of("word", meaning, truth).word(meaning, truth);
    }

    int thought(int meaning, int word) {
        return of("thought", meaning, word).thought(meaning, word);
    }

    int does(int meaning, int word) {
        return of("does", meaning, word).does(meaning, word);
    }

    int judge(int meaning) {
        return of("judge", meaning).judge(meaning);
    }

    long regret(int meaning, int truth, int word) {
        return of("regret", meaning, truth, word).regret(meaning, truth, word);
    }

    long worth(int meaning, int what) {
        return of("worth", meaning, what).worth(meaning, what);
    }

    long beside(int talk, int what) {
        return of("beside", talk, what).beside(talk, what);
    }

    int runs(int talk) {
        return of("runs", talk).runs(talk);
    }

    int finest(int talk) {
        return of("finest", talk).finest(talk);
    }

    int bound(int talk) {
        return of("bound", talk).bound(talk);
    }

    int best(int talk, int side) {
        return of("best", talk, side).best(talk, side);
    }

    int any(int talk) {
        return of("any", talk).any(talk);
    }

    int edge(int talk, int k) {
        return of("edge", talk, k).edge(talk, k);
    }

    int room(int talk) {
        return of("room", talk).room(talk);
    }

    int doors(int talk) {
        return of("doors", talk).doors(talk);
    }

    int middle(int talk, int k, int what) {
        return of("middle", talk, k, what).middle(talk, k, what);
    }

    long ends(int talk, int a, int b) {
        return of("ends", talk, a, b).ends(talk, a, b);
    }

    int bestEnds(int talk) {
        return of("bestEnds", talk).bestEnds(talk);
    }

    int leave(int talk) {
        return of("leave", talk).leave(talk);
    }

    int agree(int talk, int wish) {
        return of("agree", talk, wish).agree(talk, wish);
    }

    int still() {
        return of("still").still();
    }

    long draw(int meaning, int seed, int n) {
        return of("draw", meaning, seed, n).draw(meaning, seed, n);
    }

    int act(int meaning, int act, int x) {
        return of("act", meaning, act, x).act(meaning, act, x);
    }

    int trace(int i) {
        return of("trace", i).trace(i);
    }

    int image() {
        return of("image").image();
    }

    int restore() {
        return of("restore").restore();
    }

    int status(int what) {
        return of("status", what).status(what);
    }
}
