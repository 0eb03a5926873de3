/** Promise 6: count. */
public final class Promise6CountTest {
    public static void main(String[] args) {
        Due due = new Due();
        countsEachThing(due);
        countsFullThings(due);
        countsAnEmptyBatch(due);
        refusesWhatIsNoneOfThese(due);
        due.end();
    }

    /** "what = 0 records, 1 batches, 2 segments, 3 records in the draft, 4 the next offset", from nothing on. */
    private static void countsEachThing(Due due) {
        LogCleaner log = new LogCleaner();
        due.text("nothing", Logs.counts(log), "0 0 0 0 0");
        log.record(1, 1, true, 1, 0);
        log.record(2, 1, true, 1, 0);
        due.text("a draft", Logs.counts(log), "0 0 0 2 0");
        log.close(0);
        due.text("a batch", Logs.counts(log), "2 1 1 0 2");
        Logs.wall(log, 0);
        due.text("a segment more", Logs.counts(log), "42 2 2 0 42");
        Logs.one(log, 1, -1);
        due.text("another one", Logs.counts(log), "43 3 3 0 43");
        log.clean(0);
        due.text("cleaned", Logs.counts(log), "42 3 3 0 43");
        log.record(1, 1, true, 1, 0);
        log.drop(2);
        due.text("dropped", Logs.counts(log), "1 1 1 1 43");
    }

    /** The same of a full draft, of 400 batches and of 4000 records: more calls than 512, for the last two. */
    private static void countsFullThings(Due due) {
        LogCleaner draft = new LogCleaner();
        Logs.recordMany(draft, 0, 100);
        due.text("a full draft", Logs.counts(draft), "0 0 0 100 0");
        LogCleaner batches = new LogCleaner();
        for (int b = 0; b < 400; b++) {
            Logs.least(batches, 0);
        }
        due.text("400 batches", Logs.counts(batches), "400 400 29 0 400");
        LogCleaner records = new LogCleaner();
        for (int b = 0; b < 40; b++) {
            Logs.many(records, 0, 100, 0);
        }
        due.text("4000 records", Logs.counts(records), "4000 40 40 0 4000");
    }

    /** "1 batches": one without records is a batch. */
    private static void countsAnEmptyBatch(Due due) {
        LogCleaner log = new LogCleaner();
        Logs.one(log, 1, 0);
        Logs.wall(log, 0);
        Logs.one(log, 1, -1);
        log.clean(0);
        due.text("an empty batch, a wall and the open one", Logs.counts(log), "41 3 3 0 42");
    }

    /** "Illegal argument: what is none of these". */
    private static void refusesWhatIsNoneOfThese(Due due) {
        LogCleaner empty = new LogCleaner();
        LogCleaner log = new LogCleaner();
        Logs.one(log, 1, 0);
        int[] wrong = {-1, 5, Integer.MIN_VALUE, Integer.MAX_VALUE};
        for (int what : wrong) {
            due.illegalArgument("count of " + what, log, () -> log.count(what));
            due.illegalArgument("count of " + what + " of nothing", empty, () -> empty.count(what));
        }
    }
}
