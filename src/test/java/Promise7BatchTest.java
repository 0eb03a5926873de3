/** Promise 7: batch. */
public final class Promise7BatchTest {
    public static void main(String[] args) {
        Due due = new Due();
        refusesABatchThatIsNotThere(due);
        refusesAPartThatIsNotThere(due);
        refusesABatchThatWent(due);
        tellsEachPart(due);
        tellsAnEmptyBatch(due);
        tellsSizes(due);
        knowsTheLatestTwo(due);
        due.end();
    }

    /** "Of batch b (from 0)": the first, the last, and one beside each. */
    private static void refusesABatchThatIsNotThere(Due due) {
        LogCleaner log = new LogCleaner();
        due.illegalArgument("batch 0 of none", log, () -> log.batch(0, 0));
        log.record(3, 1, true, 3, 3);
        due.illegalArgument("batch 0 of a draft", log, () -> log.batch(0, 0));
        log.close(0);
        Logs.one(log, 2, 0);
        log.record(3, 1, true, 3, 3);
        due.answer("the first", log.batch(0, 0), 0);
        due.answer("the last", log.batch(1, 0), 1);
        int[] wrong = {-1, 2, 400, Integer.MIN_VALUE, Integer.MAX_VALUE};
        for (int b : wrong) {
            for (int what = 0; what <= 5; what++) {
                int part = what;
                due.illegalArgument("batch " + b, log, () -> log.batch(b, part));
            }
        }
    }

    /** "what = 0 .. 5 .. Illegal argument", of a batch that is there and of one that is not. */
    private static void refusesAPartThatIsNotThere(Due due) {
        LogCleaner log = new LogCleaner();
        Logs.one(log, 1, 0);
        Logs.one(log, 2, 0);
        int[] wrong = {-1, 6, Integer.MIN_VALUE, Integer.MAX_VALUE};
        for (int what : wrong) {
            due.illegalArgument("part " + what, log, () -> log.batch(1, what));
            due.illegalArgument("part " + what + " of no batch", log, () -> log.batch(2, what));
        }
    }

    /** "there is no such thing": what was dropped, or cleaned away. */
    private static void refusesABatchThatWent(Due due) {
        LogCleaner log = new LogCleaner();
        Logs.one(log, 1, -1);
        Logs.wall(log, 0);
        Logs.one(log, 1, -1);
        due.answer("the third batch", log.batch(2, 0), 41);
        log.clean(0);
        due.answer("the second is the last", log.batch(1, 0), 41);
        due.illegalArgument("the third after cleaning", log, () -> log.batch(2, 0));
        log.drop(1);
        due.answer("the first is the last", log.batch(0, 0), 41);
        due.illegalArgument("the second after dropping", log, () -> log.batch(1, 0));
    }

    /** The same of a batch without records: 0 records, 61 bytes. */
    private static void tellsAnEmptyBatch(Due due) {
        LogCleaner log = new LogCleaner();
        Logs.wall(log, 0);
        Logs.one(log, 1, 0);
        Logs.wall(log, 100);
        Logs.one(log, 1, -1);
        log.clean(0);
        int[] want = {40, 0, 0, 61, 1, 1};
        for (int what = 0; what <= 5; what++) {
            due.answer("part " + what + " of an empty batch", log.batch(1, what), want[what]);
        }
    }

    /** "what = 0 its BASE, 1 how many records .., 5 whether the log knows it, 1 or 0". */
    private static void tellsEachPart(Due due) {
        LogCleaner log = new LogCleaner();
        Logs.many(log, 0, 3, 12);
        Logs.wall(log, 1);
        Logs.one(log, 1, 12);
        log.clean(0);
        int[][] want = {{0, 1, 12, 85, 0, 1}, {3, 40, -1, 1021, 1, 0}, {43, 1, 12, 78, 2, 1}};
        for (int b = 0; b < want.length; b++) {
            for (int what = 0; what <= 5; what++) {
                due.answer("part " + what + " of batch " + b, log.batch(b, what), want[b][what]);
            }
        }
    }

    /** "3 its SIZE", from the least to the largest. */
    private static void tellsSizes(Due due) {
        for (int keyBytes = -1; keyBytes <= 8; keyBytes++) {
            LogCleaner log = new LogCleaner();
            int bytes = keyBytes < 0 ? 0 : keyBytes;
            log.record(0, keyBytes, false, 1, 0);
            log.close(0);
            due.answer("size without a value", log.batch(0, 3), 61 + 8 + bytes);
            log.record(0, keyBytes, true, 0, 0);
            log.close(0);
            due.answer("size with a value", log.batch(1, 3), 61 + 8 + bytes + 8);
        }
        LogCleaner large = new LogCleaner();
        Logs.many(large, 0, 100, 0);
        due.answer("the largest size", large.batch(0, 3), 2461);
    }

    /** "5 whether the log knows it, 1 or 0". */
    private static void knowsTheLatestTwo(Due due) {
        LogCleaner log = new LogCleaner();
        Logs.one(log, 1, 0);
        due.text("one batch", Logs.known(log), "1");
        Logs.one(log, 2, 0);
        due.text("two batches", Logs.known(log), "1 1");
        Logs.one(log, 3, 0);
        due.text("three batches", Logs.known(log), "0 1 1");
        Logs.one(log, 4, -1);
        due.text("one of no producer", Logs.known(log), "0 1 1 0");
        Logs.one(log, 5, Integer.MAX_VALUE);
        due.text("one of another producer", Logs.known(log), "0 1 1 0 1");
        Logs.one(log, 6, 0);
        due.text("four batches", Logs.known(log), "0 0 1 0 1 1");
    }
}
