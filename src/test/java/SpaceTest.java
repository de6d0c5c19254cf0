import java.lang.management.ManagementFactory;

/** A new object is small, and no call makes anything: all rows are made in constructors and used again. */
public final class SpaceTest {
    private static final int NEW_OBJECT_BYTES = 100_000;
    private static final int SLACK_BYTES = 2_000;
    private final com.sun.management.ThreadMXBean meter =
        (com.sun.management.ThreadMXBean) ManagementFactory.getThreadMXBean();

    public static void main(String[] args) {
        Checks checks = new Checks();
        checks.about("space");
        SpaceTest test = new SpaceTest();
        test.use(new SaidForNothing());
        long before = test.bytes();
        SaidForNothing x = new SaidForNothing();
        long made = test.bytes() - before;
        before = test.bytes();
        test.use(x);
        long used = test.bytes() - before;
        checks.that("a new object takes " + made + " bytes", made <= NEW_OBJECT_BYTES);
        checks.that("its calls make " + used + " bytes", used <= SLACK_BYTES);
        checks.end();
    }

    private long bytes() {
        return meter.getThreadAllocatedBytes(Thread.currentThread().getId());
    }

    /** The dearest talk there is, and every call on it. */
    private void use(SaidForNothing x) {
        String text = "so 0,9,20,31,44,50,61,70,88,97,105,130;wish 1;two 3 -2";
        x.row(0, 2, text.length());
        for (int i = 0; i < text.length(); i++) {
            x.set(0, i, text.charAt(i));
        }
        x.talk(0);
        x.row(1, 3, 12);
        x.copy(0, 1, 0, 0, 1);
        for (int kind = 0; kind < 6; kind++) {
            x.meaning(0, kind, 1, 50);
            x.act(kind, 2, 7);
            x.judge(kind);
            x.worth(kind, 0);
            x.draw(kind, 1, 200);
        }
        x.beside(0, 0);
        x.runs(0);
        x.finest(0);
        x.best(0, 0);
        x.any(0);
        x.edge(0, 6);
        x.room(0);
        x.doors(0);
        x.middle(0, 6, 0);
        x.bestEnds(0);
        x.leave(0);
        x.agree(0, 9);
        x.image();
        x.restore();
        x.still();
        x.status(2);
    }
}
