/** Promise 6: count. */
public final class Promise6CountTest {
    public static void main(String[] args) {
        Due due = new Due();
        LogCleaner log = new LogCleaner();
        counts(due, log, 0, 0, 0, 0, 0);
        log.record(1, 1, true, 1, 0);
        log.record(2, 1, true, 1, 0);
        counts(due, log, 0, 0, 0, 2, 0);
        log.close(0);
        counts(due, log, 2, 1, 1, 0, 2);
        Logs.wall(log, 0);
        counts(due, log, 42, 2, 2, 0, 42);
        Logs.one(log, 1, -1);
        counts(due, log, 43, 3, 3, 0, 43);
        log.clean(0);
        counts(due, log, 42, 3, 3, 0, 43);
        log.record(1, 1, true, 1, 0);
        log.drop(2);
        counts(due, log, 1, 1, 1, 1, 43);
        int[] wrong = {-1, 5, Integer.MIN_VALUE, Integer.MAX_VALUE};
        for (int what : wrong) {
            due.illegalArgument("count of " + what, log, () -> log.count(what));
        }
        due.end();
    }

    private static void counts(Due due, LogCleaner log, int... want) {
        for (int what = 0; what < want.length; what++) {
            due.answer("count of " + what, log.count(what), want[what]);
        }
    }
}
