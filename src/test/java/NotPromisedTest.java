import java.util.Random;

/**
 * "Not promised": "Nothing is promised beyond the answers and state changes described above". No
 * question changes anything, the same calls answer the same, and one object is not another one's.
 */
public final class NotPromisedTest {
    private static final int RUNS = 40;
    private static final int CALLS = 512;

    /** A call's kind, up to these; a greater one is some records. */
    private static final int CLEAN = 1;
    private static final int DROP = 2;
    private static final int CLOSE = 5;
    private static final int KINDS = 12;

    public static void main(String[] args) {
        Due due = new Due();
        changesNothingWhenAsked(due);
        leavesOtherObjectsAlone(due);
        answersAfterItsLastCall(due);
        due.end();
    }

    /**
     * Of two objects with the same calls, the one that is asked everything behind each answers like
     * the other. To ask so much takes more than 512 calls; the class keeps to the document there.
     */
    private static void changesNothingWhenAsked(Due due) {
        for (int seed = 0; seed < RUNS; seed++) {
            LogCleaner asked = new LogCleaner();
            LogCleaner twin = new LogCleaner();
            Random random = new Random(seed);
            for (int n = 0; n < 100; n++) {
                int kind = random.nextInt(KINDS);
                int number = random.nextInt(40);
                due.text("call " + n + " of run " + seed, change(asked, kind, number), change(twin, kind, number));
                askEverything(asked);
            }
            due.text("the end of run " + seed, Logs.state(asked), Logs.state(twin));
        }
    }

    private static String change(LogCleaner log, int kind, int number) {
        if (kind <= CLEAN) {
            return Due.outcome(() -> log.clean(100 * number));
        }
        if (kind <= DROP) {
            return Due.outcome(() -> log.drop(number / 20));
        }
        if (kind <= CLOSE) {
            return Due.outcome(() -> log.close(number / 8 - 1));
        }
        StringBuilder text = new StringBuilder();
        for (int i = 0; i < number; i++) {
            int key = number + i;
            text.append(Due.outcome(() -> log.record(key, 8, key % 4 != 0, key, 50 * number))).append("; ");
        }
        return text.toString();
    }

    private static void askEverything(LogCleaner log) {
        Logs.state(log);
        for (int key = 0; key < 80; key++) {
            log.latest(key, 8);
            log.latest(key, 1);
        }
        Due.outcome(() -> log.count(5));
        Due.outcome(() -> log.batch(log.count(1), 0));
        Due.outcome(() -> log.told(log.count(0), 0));
        Due.outcome(() -> log.latest(0, -1));
        log.toString();
        log.hashCode();
        log.equals(new LogCleaner());
    }

    /** The state is "inside the object": what is done with one is not seen of another one. */
    private static void leavesOtherObjectsAlone(Due due) {
        LogCleaner log = new LogCleaner();
        Logs.one(log, 1, 0);
        Logs.wall(log, 0);
        log.record(1, 1, false, 0, 0);
        String before = Logs.state(log);
        LogCleaner other = new LogCleaner();
        Logs.one(other, 1, 0);
        Logs.wall(other, 0);
        Logs.one(other, 1, 0);
        other.clean(9000);
        other.drop(400);
        due.text("the one", Logs.state(log), before);
        due.answer("its draft", log.close(0), 41);
    }

    /** "nothing about an object after its 512th call": no more than that the machine throws nothing there. */
    private static void answersAfterItsLastCall(Due due) {
        LogCleaner log = new LogCleaner();
        for (int n = 0; n < 40 * CALLS; n++) {
            int key = n;
            String outcome = n % 997 == 0 ? change(log, CLEAN, 10)
                : n % 4999 == 0 ? change(log, DROP, 20)
                : n % 3 == 0 ? change(log, CLOSE, 0)
                : Due.outcome(() -> log.record(key, 8, true, key, 0));
            boolean allowed = outcome.startsWith("answers ")
                || outcome.equals("throws " + IllegalStateException.class.getName());
            due.text("call " + n, allowed ? "" : outcome, "");
        }
    }
}
