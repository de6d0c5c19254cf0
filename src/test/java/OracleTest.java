import java.lang.reflect.InvocationTargetException;
import java.lang.reflect.Method;
import java.util.ArrayList;
import java.util.HashMap;
import java.util.List;
import java.util.Map;
import java.util.Random;

/** Random runs of calls, each answered by the class and by the Oracle. The seeds are fixed. */
public final class OracleTest {
    private static final int RUNS = 520;
    /** An object is for 512 calls; a step makes at most some seventy. */
    private static final int LAST_STEP = 512 - 75;
    private static final String[] CALL_NAMES = {"row", "set", "set", "copy", "element", "show", "show", "holds", "says",
        "says", "talk", "fault", "talkOf", "truth", "done", "done", "change", "change", "chance", "chance", "meaning",
        "meaning", "meaning", "meaning", "tell", "tell", "meaningOf", "word", "thought", "does", "does", "judge",
        "judge", "judge", "regret", "regret", "worth", "worth", "beside", "runs", "finest", "bound", "best", "any",
        "edge", "room", "doors", "middle", "ends", "bestEnds", "leave", "agree", "still", "draw", "draw", "act", "act",
        "trace", "trace", "image", "restore", "status", "status", "text", "text", "words", "words", "words"};

    private final Random random;
    private final Checks checks;
    private final SaidForNothing tested = new SaidForNothing();
    private final Oracle oracle = new Oracle();
    private final Map<String, Method> testedCalls = new HashMap<>();
    private final Map<String, Method> oracleCalls = new HashMap<>();
    private final List<String> log = new ArrayList<>();
    private final int most;
    private int calls = 0;

    private OracleTest(int seed, Checks checks) {
        random = new Random(seed);
        this.checks = checks;
        most = seed % 20 == 0 ? 12 : seed % 3 == 0 ? 6 : 4;
        for (Method m : SaidForNothing.class.getMethods()) {
            testedCalls.put(m.getName(), m);
        }
        for (Method m : Oracle.class.getDeclaredMethods()) {
            if (m.getReturnType() == long.class) {
                oracleCalls.put(m.getName(), m);
            }
        }
    }

    public static void main(String[] args) throws Exception {
        Checks checks = new Checks();
        for (int seed = 0; seed < RUNS && checks.wrong() == 0; seed++) {
            checks.about("run " + seed);
            OracleTest run = new OracleTest(seed, checks);
            while (run.calls < LAST_STEP && checks.wrong() == 0) {
                run.step();
            }
            checks.that("the run makes more calls than an object is for", run.calls <= 512);
            if (checks.wrong() > 0) {
                run.log.forEach(System.out::println);
            }
        }
        checks.end();
    }

    private long call(String name, Object... args) throws Exception {
        StringBuilder told = new StringBuilder(name).append('(');
        for (int i = 0; i < args.length; i++) {
            told.append(i == 0 ? "" : ", ").append(args[i]);
        }
        String call = told.append(')').toString();
        calls++;
        long got = ((Number) testedCalls.get(name).invoke(tested, args)).longValue();
        long want;
        try {
            want = (Long) oracleCalls.get(name).invoke(oracle, args);
        } catch (InvocationTargetException e) {
            if (!(e.getCause() instanceof Oracle.Refused)) {
                throw e;
            }
            want = oracle.refused((Oracle.Refused) e.getCause(), Oracle.baseOf(name));
        }
        log.add(call + " " + got);
        checks.due(call, got, want);
        return got;
    }

    private int pick(int low, int high) {
        return low + random.nextInt(high - low + 1);
    }

    private boolean chanceOf(int percent) {
        return random.nextInt(100) < percent;
    }

    /** Mostly from low to high, at times somewhat or far off. */
    private int about(int low, int high) {
        if (chanceOf(3)) {
            int[] far = {Integer.MIN_VALUE, Integer.MAX_VALUE, -1, low - 1, high + 1, 64, 32, 31};
            return far[random.nextInt(far.length)];
        }
        return high < low ? low : pick(low, high);
    }

    private int talkNumber() {
        return about(0, (int) oracle.status(0) - 1);
    }

    private int meaningNumber() {
        return about(0, (int) oracle.status(1) - 1);
    }

    private int truths(int talk) {
        int n = talk >= 0 && talk < oracle.status(0) ? (int) oracle.talkOf(talk, 0) : 3;
        return Math.max(1, n);
    }

    private int act() {
        return chanceOf(70) ? about(0, 60) : about(0, 999);
    }

    private int shift() {
        return chanceOf(80) ? about(-12, 12) : about(-500, 500);
    }

    private int anyInt() {
        return chanceOf(50) ? pick(-100, 100) : random.nextInt();
    }

    private long anyLong() {
        return chanceOf(60) ? pick(0, 12) : chanceOf(50) ? pick(-300, 300) : random.nextLong();
    }

    private void step() throws Exception {
        String name = CALL_NAMES[random.nextInt(CALL_NAMES.length)];
        if (log.size() < 2) {
            name = "text";
        }
        int s = about(0, 7);
        int t = talkNumber();
        int m = meaningNumber();
        int n = truths(t);
        boolean heavy = n > 7 && chanceOf(90);
        switch (name) {
            case "text":
                putText(pick(0, 7));
                break;
            case "words":
                putWords(pick(0, 7));
                break;
            case "row":
                call(name, s, about(0, 3), chanceOf(50) ? about(0, 12) : about(0, 64));
                break;
            case "set":
                call(name, s, about(0, 15), anyLong());
                break;
            case "copy":
                call(name, s, chanceOf(40) ? s : about(0, 7), about(0, 5), about(0, 5), about(0, 8));
                break;
            case "element":
                call(name, s, about(0, 20));
                break;
            case "show":
                call(name, s, m);
                break;
            case "holds":
            case "talk":
                call(name, s);
                break;
            case "says":
                call(name, s, about(0, 5));
                break;
            case "talkOf":
                call(name, t, about(0, 7));
                break;
            case "truth":
                call(name, t, about(0, n - 1), about(0, 1));
                break;
            case "done":
                call(name, t, chanceOf(10) ? anyInt() : about(0, (1 << n) - 1));
                break;
            case "change":
                call(name, t, about(0, 1), shift());
                break;
            case "chance":
                call(name, t, about(0, n - 1), chanceOf(10) ? pick(-1, 110) : about(1, 9));
                break;
            case "meaning":
                int kind = about(0, 5);
                call(name, t, kind, s, kind == 1 ? about(0, (1 << n - 1) - 1) : about(0, 100));
                break;
            case "tell":
                for (int i = 0; i < 8 && call("meaningOf", m, 0) != 5; i++) {
                    m = meaningNumber();
                }
                tellBest(m);
                break;
            case "meaningOf":
                call(name, m, about(0, 3));
                break;
            case "word":
            case "thought":
            case "does":
                call(name, m, about(0, 5));
                break;
            case "judge":
                call(name, m);
                break;
            case "regret":
                call(name, m, about(0, 4), about(0, 4));
                break;
            case "worth":
                call(name, m, about(0, 1));
                break;
            case "draw":
                call(name, m, anyInt(), about(1, 200));
                break;
            case "act":
                call(name, m, about(0, 2), anyInt());
                break;
            case "trace":
                call(name, about(0, 9));
                break;
            case "status":
                call(name, chanceOf(50) ? about(0, 3) : about(11, 17));
                break;
            case "fault":
            case "still":
            case "image":
            case "restore":
                call(name);
                break;
            default:
                if (!heavy) {
                    ask(name, t, n);
                }
        }
    }

    private void ask(String name, int t, int n) throws Exception {
        switch (name) {
            case "beside":
            case "best":
                call(name, t, about(0, 1));
                break;
            case "edge":
                call(name, t, about(1, n + 1));
                break;
            case "middle":
                if (n <= 5 || chanceOf(20)) {
                    call(name, t, about(1, n + 1), about(0, 1));
                }
                break;
            case "ends":
                call(name, t, act(), act());
                break;
            case "agree":
                if (n <= 5 || n <= 7 && chanceOf(20)) {
                    farApart(t);
                }
                break;
            default:
                call(name, t);
        }
    }

    /** What is told is mostly what is best, or one off, so that TOLD ones hold at times. */
    private void tellBest(int m) throws Exception {
        long talk = call("meaningOf", m, 1);
        long used = call("meaningOf", m, 3);
        for (int word = 0; word < 12 && used > 0 && chanceOf(90); word++) {
            if ((used >> word & 1) == 1) {
                int set = (int) call("thought", m, word);
                int best = (int) call("done", (int) talk, set);
                call("tell", m, word, chanceOf(20) ? act() : best + (chanceOf(10) ? 1 : 0));
            }
        }
        call("tell", m, about(0, 11), act());
        call("judge", m);
    }

    /** Wishes must be far apart for two who know the same to be at odds. */
    private void farApart(int t) throws Exception {
        int sign = chanceOf(50) ? 1 : -1;
        boolean far = chanceOf(50);
        if (far) {
            call("change", t, 0, sign * pick(300, 500));
        }
        call("agree", t, far ? -sign * pick(300, 500) : shift());
    }

    private void putText(int s) throws Exception {
        String text = text();
        call("row", s, pick(0, 3), Math.min(64, text.length()));
        for (int i = 0; i < text.length() && i < 64; i++) {
            call("set", s, i, (long) text.charAt(i));
        }
        call("talk", s);
        call("fault");
    }

    private String text() {
        StringBuilder text = new StringBuilder("so ");
        int n = chanceOf(5) ? pick(1, 14) : pick(1, most);
        int gap = chanceOf(80) ? 12 : 999 / (n + 1);
        int x = chanceOf(30) ? pick(0, 999 - Math.min(900, gap * n)) : pick(0, gap);
        for (int i = 0; i < n; i++) {
            text.append(i == 0 ? "" : ",").append(x);
            if (chanceOf(30)) {
                text.append('*').append(chanceOf(80) ? pick(1, 9) : pick(1, 99));
            }
            x += pick(1, gap);
        }
        for (int parts = pick(0, 3); parts > 0; parts--) {
            String[] all = {"wish " + pick(-6, 6), "wish " + pick(0, 3), "lean " + pick(-6, 6), "words " + pick(1, 12),
                "loss a", "loss s", "two " + pick(-6, 6) + " " + pick(-6, 6), "two 0 0", "wish " + pick(-500, 500)};
            text.append(';').append(all[random.nextInt(all.length)]);
        }
        if (chanceOf(25)) {
            spoil(text);
        }
        return text.toString();
    }

    private void spoil(StringBuilder text) {
        int place = random.nextInt(text.length());
        String letters = "so wihleandrta-,;*0123456789#";
        char letter = letters.charAt(random.nextInt(letters.length()));
        int how = pick(0, 3);
        if (how == 0) {
            text.setLength(place);
        } else if (how == 1) {
            text.setCharAt(place, letter);
        } else if (how == 2) {
            text.insert(place, letter);
        } else {
            text.deleteCharAt(place);
        }
    }

    private void putWords(int s) throws Exception {
        call("row", s, pick(0, 3), pick(Math.min(5, most), 12));
        int words = pick(1, 4);
        for (int i = 0; i < most; i++) {
            long high = chanceOf(5) ? 1L << 32 : 0;
            call("set", s, i, high + (chanceOf(2) ? pick(-1, 13) : pick(0, words)));
        }
    }
}
