/** Terms: "THE DRAFT has records, none at first.", and what the other terms leave of it alone. */
public final class TermsDraftTest {
    public static void main(String[] args) {
        Due due = new Due();
        hasNoRecordAtFirst(due);
        isNotInTheLog(due);
        outlivesCleaningAndDropping(due);
        keepsItsOrder(due);
        startsAnewBehindABatch(due);
        takesNoRoomInASegment(due);
        due.end();
    }

    /** "none at first". */
    private static void hasNoRecordAtFirst(Due due) {
        LogCleaner log = new LogCleaner();
        due.answer("records in the draft", log.count(3), 0);
        due.illegalState("close", log, () -> log.close(-1));
        due.answer("the first record", log.record(0, -1, false, 0, 0), 1);
    }

    /** "THE DRAFT has records": they are none of the log's, whoever asks. */
    private static void isNotInTheLog(Due due) {
        LogCleaner log = new LogCleaner();
        Logs.one(log, 1, 0);
        String before = Logs.offsets(log) + "/" + Logs.bases(log) + "/" + Logs.sizes(log) + "/" + Logs.known(log);
        log.record(2, 1, true, 2, 0);
        log.record(1, 1, false, 0, 0);
        due.text("the log", Logs.offsets(log) + "/" + Logs.bases(log) + "/" + Logs.sizes(log) + "/"
            + Logs.known(log), before);
        due.text("counts", Logs.counts(log), "1 1 1 2 1");
        due.answer("latest of a key of the draft", log.latest(2, 1), LogCleaner.NONE);
        due.answer("latest of a key of both", log.latest(1, 1), 0);
        due.illegalArgument("a record of the draft", log, () -> log.told(1, 0));
        due.illegalArgument("a batch of the draft", log, () -> log.batch(1, 0));
    }

    /** Cleaning takes records "of a closed segment", dropping takes "segments": the draft is in none. */
    private static void outlivesCleaningAndDropping(Due due) {
        LogCleaner log = new LogCleaner();
        log.record(9, 1, true, 0, 0);
        log.record(9, 1, false, 0, 0);
        log.close(-1);
        Logs.wall(log, 0);
        Logs.wall(log, 100);
        log.record(5, 2, false, 0, 3);
        log.record(5, 2, true, 6, 4);
        due.answer("clean", log.clean(Integer.MAX_VALUE), 2);
        due.answer("the draft after cleaning", log.count(3), 2);
        due.answer("drop", log.drop(400), 40);
        due.answer("the draft after dropping", log.count(3), 2);
        due.answer("close", log.close(4), 82);
        due.text("the log", tell(log, 40) + "; " + tell(log, 41), "82 2 5 0 0 3; 83 2 5 6 1 4");
    }

    private static String tell(LogCleaner log, int r) {
        StringBuilder text = new StringBuilder();
        for (int what = 0; what <= 5; what++) {
            text.append(what == 0 ? "" : " ").append(log.told(r, what));
        }
        return text.toString();
    }

    /** "0, 1, .. as they come": the records of the draft become those of the batch in their order. */
    private static void keepsItsOrder(Due due) {
        LogCleaner log = new LogCleaner();
        int[] times = {5, 3, 9, 3};
        for (int time : times) {
            log.record(-time, 8, true, 10 * time, time);
        }
        log.close(0);
        for (int r = 0; r < times.length; r++) {
            due.text("record " + r, tell(log, r), r + " 8 " + -times[r] + " " + 10 * times[r] + " 1 " + times[r]);
        }
    }

    /** The draft "is empty then": what it had is not in the next batch. */
    private static void startsAnewBehindABatch(Due due) {
        LogCleaner log = new LogCleaner();
        Logs.recordMany(log, 0, 3);
        log.close(0);
        due.answer("the draft", log.count(3), 0);
        due.answer("a record", log.record(7, 1, true, 70, 7), 1);
        due.answer("close", log.close(0), 3);
        due.text("records", Logs.lengths(log), "3 1");
        due.text("the last record", tell(log, 3), "3 1 7 70 1 7");
    }

    /** A segment is filled by "batches": a draft of any size takes no room before it is one. */
    private static void takesNoRoomInASegment(Due due) {
        LogCleaner log = new LogCleaner();
        Logs.sized(log, 500);
        Logs.recordMany(log, 0, 100);
        due.answer("segments with a large draft", log.count(2), 1);
        due.answer("drop of the only one", log.drop(1), 0);
        due.illegalArgument("close for -2", log, () -> log.close(-2));
        due.answer("close", log.close(-1), 27);
        due.text("segments", Logs.segments(log), "0 1");
    }
}
