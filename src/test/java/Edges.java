/**
 * What the tests of boundary cases share: each names the sentence of the document that it is for, then asks a new
 * object. Rows and texts are put in by calls, so an object has room for some ten talks.
 */
abstract class Edges {
    static final int NONE = -1;
    static final int MIN = Integer.MIN_VALUE;
    static final int MAX = Integer.MAX_VALUE;
    /** What a refusal lies below, where the answer may itself be below 0. */
    static final long FAR = -2_000_000_000L;
    static final String TWELVE = "so 0,1,2,3,4,5,6,7,8,9,10,11";

    private final Checks checks;
    private final Document document;
    Counted x;

    Edges(Checks checks, Document document) {
        this.checks = checks;
        this.document = document;
        x = new Counted();
    }

    abstract void run();

    /** From here on the checks are for these words at that place of the document. */
    final void sentence(String where, String words) {
        checks.about(where + ": \"" + words + "\"");
        checks.that("the document has no such words there", document.names(where, words));
    }

    final void fresh() {
        use(new Counted());
    }

    final void use(Counted next) {
        checks.that("the test makes more calls than an object is for", !x.usedTooLong());
        x = next;
    }

    /** What the latest call on x answered, and what was due. */
    final void due(long got, long want) {
        checks.due(x.last(), got, want);
    }

    final void that(String claim, boolean holds) {
        checks.that(claim, holds);
    }

    /** Numbers outside of low to high, next to it and far off, also such as end in the same bits. */
    static int[] off(int low, int high) {
        return new int[] {low - 1, high + 1, low + 65_536, low - 65_536, high - 1_048_576, MIN, MAX};
    }

    final void letters(int s, int sort, String text) {
        x.row(s, sort, text.length());
        for (int i = 0; i < text.length(); i++) {
            x.set(s, i, text.charAt(i));
        }
    }

    /** The answer of talk() to a text. */
    final int talk(String text) {
        letters(7, 0, text);
        return x.talk(7);
    }

    /** A new object with one talk. */
    final void freshTalk(String text) {
        fresh();
        due(talk(text), 0);
    }

    final void words(int s, int... words) {
        x.row(s, 1, words.length);
        for (int i = 0; i < words.length; i++) {
            x.set(s, i, words[i]);
        }
    }

    /** A MEANING, BLUR or TOLD one of a talk, by words that go through shelf 6. */
    final int byWords(int talk, int kind, int more, int... words) {
        words(6, words);
        return x.meaning(talk, kind, 6, more);
    }

    /** How many refusals -1, -2, .. there were; none of those that aren't told. */
    final void refusals(int... counts) {
        for (int i = 0; i < 7; i++) {
            due(x.status(11 + i), i < counts.length ? counts[i] : 0);
        }
    }
}
