/** Promise 1: a new object. */
public final class Promise1NewObjectTest {
    public static void main(String[] args) {
        Due due = new Due();
        hasAnEmptyLog(due);
        hasAnEmptyDraft(due);
        hasNothingToCleanOrDrop(due);
        sharesNothing(due);
        due.end();
    }

    /** "An empty log": no record, no batch, no segment, no offset used, no key. */
    private static void hasAnEmptyLog(Due due) {
        LogCleaner log = new LogCleaner();
        due.text("a new log", Logs.state(log), "counts 0 0 0 0 0");
        for (int what = 0; what <= 5; what++) {
            int part = what;
            due.illegalArgument("part " + what + " of batch 0", log, () -> log.batch(0, part));
            due.illegalArgument("part " + what + " of record 0", log, () -> log.told(0, part));
        }
        for (int keyBytes = 0; keyBytes <= 8; keyBytes++) {
            due.answer("latest of " + keyBytes + " bytes", log.latest(0, keyBytes), LogCleaner.NONE);
            due.answer("the same of all bits", log.latest(-1, keyBytes), LogCleaner.NONE);
        }
    }

    /** "an empty draft": it cannot be closed, and the first record is the only one in it. */
    private static void hasAnEmptyDraft(Due due) {
        LogCleaner log = new LogCleaner();
        due.answer("records of the draft", log.count(3), 0);
        due.illegalState("close of an empty draft", log, () -> log.close(0));
        due.answer("the first record", log.record(1, 1, true, 1, 0), 1);
        due.answer("the first base", log.close(0), 0);
        due.answer("records of the batch", log.batch(0, 1), 1);
    }

    /** "An empty log": cleaning and dropping find nothing there. */
    private static void hasNothingToCleanOrDrop(Due due) {
        LogCleaner log = new LogCleaner();
        due.answer("clean of nothing", log.clean(Integer.MAX_VALUE), 0);
        due.answer("drop of nothing", log.drop(0), 0);
        due.answer("drop of all of nothing", log.drop(400), 0);
        due.text("a new log, cleaned and dropped", Logs.state(log), "counts 0 0 0 0 0");
        Logs.one(log, 1, 0);
        due.text("its first batch", Logs.segments(log), "0");
        due.answer("the segments", log.count(2), 1);
    }

    /** "An empty log", whatever other objects hold. */
    private static void sharesNothing(Due due) {
        LogCleaner one = new LogCleaner();
        LogCleaner other = new LogCleaner();
        Logs.one(one, 1, 0);
        one.record(2, 1, true, 2, 2);
        due.text("the other log", Logs.state(other), "counts 0 0 0 0 0");
        due.text("a third log", Logs.state(new LogCleaner()), "counts 0 0 0 0 0");
        due.answer("a record of the other", other.record(9, 1, true, 9, 9), 1);
        due.answer("a batch of the other", other.close(3), 0);
        due.answer("the one knows its own", one.latest(9, 1), LogCleaner.NONE);
    }
}
