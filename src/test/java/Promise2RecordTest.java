/** Promise 2: record. */
public final class Promise2RecordTest {
    public static void main(String[] args) {
        Due due = new Due();
        countsTheDraft(due);
        keepsTheLowestBytes(due);
        keepsWhatIsThere(due);
        refusesKeyBytesOutOfBounds(due);
        refusesATimeBelowZero(due);
        refusesMoreThanAHundred(due);
        refusesMoreThanFourThousand(due);
        refusesMoreThanFourThousandWithTheDraft(due);
        throwsIllegalArgumentFirst(due);
        due.end();
    }

    /** "A record comes into the draft ..: how many are there". */
    private static void countsTheDraft(Due due) {
        LogCleaner log = new LogCleaner();
        due.answer("the first record", log.record(1, 1, true, 1, 0), 1);
        due.answer("the second record", log.record(1, 1, true, 1, 0), 2);
        due.answer("a record without a key", log.record(1, -1, true, 1, 0), 3);
        due.text("a log with a draft", Logs.state(log), "counts 0 0 0 3 0");
        due.answer("latest does not see the draft", log.latest(1, 1), LogCleaner.NONE);
        log.close(0);
        due.answer("a record of the next draft", log.record(1, 1, true, 1, 0), 1);
        due.answer("the log's records", log.count(0), 3);
    }

    /** "the lowest keyBytes bytes of key, the highest first (keyBytes = -1: none)". */
    private static void keepsTheLowestBytes(Due due) {
        long key = 0xF1E2D3C4B5A69788L;
        long[] kept = {0, 0, 0x88L, 0x9788L, 0xA69788L, 0xB5A69788L, 0xC4B5A69788L, 0xD3C4B5A69788L,
            0xE2D3C4B5A69788L, key};
        LogCleaner log = new LogCleaner();
        for (int keyBytes = -1; keyBytes <= 8; keyBytes++) {
            log.record(key, keyBytes, false, 0, 0);
        }
        log.close(0);
        for (int keyBytes = -1; keyBytes <= 8; keyBytes++) {
            due.answer("bytes of the key of " + keyBytes, log.told(keyBytes + 1, 1), keyBytes);
            due.answer("the key of " + keyBytes, log.told(keyBytes + 1, 2), kept[keyBytes + 1]);
        }
    }

    /** "a value if hasValue". */
    private static void keepsWhatIsThere(Due due) {
        LogCleaner log = new LogCleaner();
        log.record(7, 1, true, Long.MIN_VALUE, Integer.MAX_VALUE);
        log.record(7, 1, false, 55, 0);
        log.close(0);
        due.text("both records", Logs.state(log), "counts 2 1 1 0 2; batch 0 2 0 87 0 1; record 0 1 7 "
            + Long.MIN_VALUE + " 1 " + Integer.MAX_VALUE + "; record 1 1 7 0 0 0");
    }

    /** "Illegal argument: keyBytes are not -1 .. 8". */
    private static void refusesKeyBytesOutOfBounds(Due due) {
        LogCleaner log = new LogCleaner();
        due.answer("record of -1 bytes", log.record(1, -1, true, 1, 1), 1);
        due.answer("record of 8 bytes", log.record(1, 8, true, 1, 1), 2);
        int[] wrong = {-2, 9, Integer.MIN_VALUE, Integer.MAX_VALUE};
        for (int keyBytes : wrong) {
            due.illegalArgument("record of " + keyBytes + " bytes", log, () -> log.record(1, keyBytes, true, 1, 1));
        }
        due.answer("record of 0 bytes", log.record(2, 0, true, 2, 2), 3);
        log.close(0);
        due.text("the batch", Logs.state(log), "counts 3 1 1 0 3; batch 0 3 0 117 0 1"
            + "; record 0 -1 0 1 1 1; record 1 8 1 1 1 1; record 2 0 0 2 1 2");
    }

    /** "or time is below 0". */
    private static void refusesATimeBelowZero(Due due) {
        LogCleaner log = new LogCleaner();
        due.answer("record at 0", log.record(1, 1, true, 1, 0), 1);
        due.answer("record at the end", log.record(1, 1, true, 1, Integer.MAX_VALUE), 2);
        due.illegalArgument("record at -1", log, () -> log.record(1, 1, true, 1, -1));
        due.illegalArgument("record long ago", log, () -> log.record(1, -1, false, 1, Integer.MIN_VALUE));
        due.answer("the next record", log.record(2, 1, false, 2, 2), 3);
        log.close(0);
        due.text("the batch", Logs.state(log), "counts 3 1 1 0 3; batch 0 3 0 104 0 1"
            + "; record 0 1 1 1 1 0; record 1 1 1 1 1 " + Integer.MAX_VALUE + "; record 2 1 2 0 0 2");
    }

    /** "illegal state: also if the draft has 100". */
    private static void refusesMoreThanAHundred(Due due) {
        LogCleaner log = new LogCleaner();
        for (int n = 1; n <= 100; n++) {
            due.answer("record " + n, log.record(n, 1, true, n, n), n);
        }
        due.illegalState("record 101", log, () -> log.record(101, 1, true, 101, 101));
        due.answer("the draft", log.count(3), 100);
        log.close(0);
        due.answer("records of the batch", log.batch(0, 1), 100);
        due.answer("the last record's value", log.told(99, 3), 100);
        due.answer("latest of the refused key", log.latest(101, 1), LogCleaner.NONE);
        for (int n = 1; n <= 100; n++) {
            due.answer("record " + n + " of the next draft", log.record(n, 1, true, n, n), n);
        }
        due.illegalState("record 101 again", log, () -> log.record(101, 1, true, 101, 101));
    }

    /** 3900 records in the log: more calls than the document promises anything for. */
    private static LogCleaner with3900() {
        LogCleaner log = new LogCleaner();
        for (int b = 0; b < 39; b++) {
            Logs.many(log, b * 100, 100, 0);
        }
        return log;
    }

    /** "or with it and the log's there would be more than 4000": the log has them all. */
    private static void refusesMoreThanFourThousand(Due due) {
        LogCleaner log = with3900();
        Logs.recordMany(log, 3900, 99);
        due.answer("record 4000", log.record(3999, 8, true, 3999, 0), 100);
        log.close(0);
        due.answer("records", log.count(0), 4000);
        due.illegalState("record 4001", log, () -> log.record(4000, 8, true, 4000, 0));
        due.answer("drop", log.drop(1), 100);
        due.answer("record 3901", log.record(4000, 8, true, 4000, 0), 1);
    }

    /** The same: the log and a draft that has room have them together. */
    private static void refusesMoreThanFourThousandWithTheDraft(Due due) {
        LogCleaner log = with3900();
        Logs.many(log, 3900, 60, 0);
        Logs.recordMany(log, 3960, 39);
        due.answer("record 4000", log.record(3999, 8, true, 3999, 0), 40);
        due.illegalState("record 4001", log, () -> log.record(4000, 8, true, 4000, 0));
        due.answer("the draft becomes a batch", log.close(0), 3960);
        due.answer("records", log.count(0), 4000);
        due.illegalState("record 4001 then", log, () -> log.record(4000, 8, true, 4000, 0));
    }

    /** "Of several exceptions the one named first is thrown". */
    private static void throwsIllegalArgumentFirst(Due due) {
        LogCleaner draft = new LogCleaner();
        Logs.recordMany(draft, 0, 100);
        LogCleaner full = with3900();
        Logs.many(full, 3900, 100, 0);
        for (LogCleaner log : new LogCleaner[] {draft, full}) {
            due.illegalArgument("record of 9 bytes", log, () -> log.record(1, 9, true, 1, 1));
            due.illegalArgument("record of -2 bytes", log, () -> log.record(1, -2, true, 1, 1));
            due.illegalArgument("record at -1", log, () -> log.record(1, 1, true, 1, -1));
            due.illegalState("record", log, () -> log.record(1, 1, true, 1, 1));
        }
    }
}
