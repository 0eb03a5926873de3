/** Promise 7: batch. */
public final class Promise7BatchTest {
    public static void main(String[] args) {
        Due due = new Due();
        refusesWrongArguments(due);
        tellsEachPart(due);
        tellsSizes(due);
        knowsTheLatestTwo(due);
        due.end();
    }

    private static void refusesWrongArguments(Due due) {
        LogCleaner log = new LogCleaner();
        due.illegalArgument("batch 0 of none", log, () -> log.batch(0, 0));
        Logs.one(log, 1, 0);
        Logs.one(log, 2, 0);
        log.record(3, 1, true, 3, 3);
        int[] wrongBatches = {-1, 2, 400, Integer.MIN_VALUE, Integer.MAX_VALUE};
        for (int b : wrongBatches) {
            for (int what = 0; what <= 5; what++) {
                int part = what;
                due.illegalArgument("batch " + b, log, () -> log.batch(b, part));
            }
        }
        int[] wrongParts = {-1, 6, Integer.MIN_VALUE, Integer.MAX_VALUE};
        for (int what : wrongParts) {
            due.illegalArgument("part " + what, log, () -> log.batch(1, what));
            due.illegalArgument("part " + what + " of no batch", log, () -> log.batch(2, what));
        }
    }

    private static void tellsEachPart(Due due) {
        LogCleaner log = new LogCleaner();
        Logs.many(log, 0, 3, 12);
        Logs.wall(log, 1);
        Logs.one(log, 1, 12);
        log.clean(0);
        int[][] want = {{0, 1, 12, 85, 0, 1}, {3, 40, -1, 1021, 1, 0}, {43, 1, 12, 78, 2, 1}};
        for (int b = 0; b < want.length; b++) {
            for (int what = 0; what <= 5; what++) {
                due.answer("part " + what + " of batch " + b, log.batch(b, what), want[b][what]);
            }
        }
    }

    private static void tellsSizes(Due due) {
        for (int keyBytes = -1; keyBytes <= 8; keyBytes++) {
            LogCleaner log = new LogCleaner();
            int bytes = keyBytes < 0 ? 0 : keyBytes;
            log.record(0, keyBytes, false, 1, 0);
            log.close(0);
            due.answer("size without a value", log.batch(0, 3), 61 + 8 + bytes);
            log.record(0, keyBytes, true, 0, 0);
            log.close(0);
            due.answer("size with a value", log.batch(1, 3), 61 + 8 + bytes + 8);
        }
        LogCleaner large = new LogCleaner();
        Logs.many(large, 0, 100, 0);
        due.answer("the largest size", large.batch(0, 3), 2461);
    }

    private static void knowsTheLatestTwo(Due due) {
        LogCleaner log = new LogCleaner();
        Logs.one(log, 1, 0);
        due.text("one batch", Logs.known(log), "1");
        Logs.one(log, 2, 0);
        due.text("two batches", Logs.known(log), "1 1");
        Logs.one(log, 3, 0);
        due.text("three batches", Logs.known(log), "0 1 1");
        Logs.one(log, 4, -1);
        due.text("one of no producer", Logs.known(log), "0 1 1 0");
        Logs.one(log, 5, Integer.MAX_VALUE);
        due.text("one of another producer", Logs.known(log), "0 1 1 0 1");
        Logs.one(log, 6, 0);
        due.text("four batches", Logs.known(log), "0 0 1 0 1 1");
    }
}
