/** Terms: the edges of the log, of its records and of its batches, a sentence a method. */
public final class TermsLogTest {
    public static void main(String[] args) {
        Due due = new Due();
        isUsedFor512Calls(due);
        hasNothingAtFirst(due);
        has400BatchesAtMost(due);
        has4000RecordsAtMost(due);
        countsOffsetsFromZero(due);
        usesNoOffsetAgain(due);
        usesNoOffsetForWhatIsRefused(due);
        tellsAKeyOfNoBytesFromNone(due);
        hasKeysOfUpToEightBytes(due);
        tellsAValueOfZeroFromNone(due);
        hasNumbersAtTheirEnds(due);
        keepsABaseWhoseRecordWent(due);
        hasProducersFromNone(due);
        hasSizesOfOneRecord(due);
        hasSizesOfNoneAndOfAHundred(due);
        due.end();
    }

    /** "An object is used for at most 512 calls": the last of them still answers. */
    private static void isUsedFor512Calls(Due due) {
        LogCleaner batches = new LogCleaner();
        for (int b = 0; b < 255; b++) {
            batches.record(b, 8, true, b, 0);
            batches.close(b);
        }
        batches.record(255, 8, true, 255, 0);
        due.answer("call 512, the most batches of a run", batches.close(255), 255);
        LogCleaner records = new LogCleaner();
        for (int b = 0; b < 5; b++) {
            Logs.many(records, b * 100, 100, 0);
        }
        Logs.recordMany(records, 500, 5);
        due.answer("call 511, the most records of a run", records.close(0), 500);
        due.answer("call 512", records.latest(504, 8), 504);
    }

    /** "BATCHES .., with RECORDS": an empty log has none, and whoever asks for one is refused. */
    private static void hasNothingAtFirst(Due due) {
        LogCleaner log = new LogCleaner();
        due.text("counts", Logs.counts(log), "0 0 0 0 0");
        due.illegalArgument("batch 0", log, () -> log.batch(0, 0));
        due.illegalArgument("record 0", log, () -> log.told(0, 0));
    }

    /** "BATCHES, 400 at most". More calls than 512 are needed; the class keeps the bound there. */
    private static void has400BatchesAtMost(Due due) {
        LogCleaner log = new LogCleaner();
        for (int b = 0; b < 399; b++) {
            Logs.least(log, 0);
        }
        log.record(0, 8, true, 0, 0);
        due.answer("close with 399 batches", log.close(0), 399);
        due.answer("batches", log.count(1), 400);
        due.answer("the last batch", log.batch(399, 0), 399);
        due.illegalArgument("one more", log, () -> log.batch(400, 0));
        log.record(0, 8, true, 0, 0);
        due.illegalState("close with 400 batches", log, () -> log.close(0));
        due.answer("clean", log.clean(0), 0);
        due.illegalState("close, as nothing went", log, () -> log.close(0));
        due.answer("drop of 14 batches", log.drop(1), 14);
        due.answer("close with 386 batches", log.close(0), 400);
    }

    /** "RECORDS, 4000 together at most". More calls than 512 are needed here, too. */
    private static void has4000RecordsAtMost(Due due) {
        LogCleaner log = new LogCleaner();
        for (int b = 0; b < 40; b++) {
            Logs.many(log, 0, 100, -1);
        }
        due.answer("records", log.count(0), 4000);
        due.answer("the last record", log.told(3999, 0), 3999);
        due.illegalArgument("one more", log, () -> log.told(4000, 0));
        due.illegalState("record with 4000", log, () -> log.record(0, -1, false, 0, 0));
        due.answer("clean", log.clean(0), 3900);
        due.answer("record with 100", log.record(0, -1, false, 0, 0), 1);
        due.answer("the offsets go on", log.close(-1), 4000);
    }

    /** "each record has an OFFSET: 0, 1, .. as they come". */
    private static void countsOffsetsFromZero(Due due) {
        LogCleaner log = new LogCleaner();
        due.answer("the next offset of an empty log", log.count(4), 0);
        log.record(1, 1, true, 1, 0);
        log.record(2, 1, true, 2, 0);
        due.answer("the next offset with a draft", log.count(4), 0);
        due.answer("the first base", log.close(0), 0);
        due.answer("the next offset", log.count(4), 2);
        log.record(1, 1, true, 1, 0);
        due.answer("the second base", log.close(0), 2);
        due.text("offsets", Logs.offsets(log), "0 1 2");
    }

    /** "(those that went are not used again)", whether cleaning or dropping took them. */
    private static void usesNoOffsetAgain(Due due) {
        LogCleaner log = new LogCleaner();
        Logs.one(log, 1, -1);
        Logs.wall(log, 0);
        Logs.one(log, 1, -1);
        due.answer("clean", log.clean(0), 1);
        due.answer("the next offset after it", log.count(4), 42);
        due.answer("drop", log.drop(400), 40);
        due.answer("the next offset after that", log.count(4), 42);
        due.text("what is left", Logs.offsets(log), "41");
        log.record(1, 1, true, 1, 0);
        due.answer("the next base", log.close(-1), 42);
        due.text("both", Logs.offsets(log), "41 42");
    }

    /** "OFFSET: 0, 1, ..": what never came into the log takes none. */
    private static void usesNoOffsetForWhatIsRefused(Due due) {
        LogCleaner log = new LogCleaner();
        log.record(1, 1, true, 1, 0);
        due.illegalArgument("record of 9 bytes", log, () -> log.record(1, 9, true, 1, 0));
        due.illegalArgument("close for -2", log, () -> log.close(-2));
        log.record(2, 1, true, 2, 0);
        due.answer("the base", log.close(0), 0);
        due.illegalState("close of nothing", log, () -> log.close(0));
        due.text("offsets", Logs.offsets(log), "0 1");
        due.answer("the next offset", log.count(4), 2);
    }

    /** "a KEY (a row of 0 .. 8 bytes) or none": no byte is a key, too. */
    private static void tellsAKeyOfNoBytesFromNone(Due due) {
        LogCleaner log = new LogCleaner();
        log.record(9, 0, true, 1, 0);
        log.record(9, -1, true, 2, 0);
        log.record(9, 0, true, 3, 0);
        log.record(9, -1, true, 4, 0);
        log.record(0, 1, true, 5, 0);
        log.close(-1);
        due.answer("bytes of a key of none", log.told(0, 1), 0);
        due.answer("bytes of no key", log.told(1, 1), LogCleaner.NONE);
        due.answer("a key of no bytes as a number", log.told(0, 2), 0);
        due.answer("no key as a number", log.told(1, 2), 0);
        due.answer("latest", log.latest(-1, 0), 2);
        Logs.wall(log, 0);
        due.answer("clean", log.clean(Integer.MAX_VALUE), 1);
        due.answer("only the first went", log.told(0, 0), 1);
        due.answer("no key replaces no key", log.told(2, 0), 3);
    }

    /** "a KEY (a row of 0 .. 8 bytes)": each length, with all bits and with none. */
    private static void hasKeysOfUpToEightBytes(Due due) {
        for (int keyBytes = 0; keyBytes <= 8; keyBytes++) {
            LogCleaner log = new LogCleaner();
            log.record(-1L, keyBytes, true, 0, 0);
            log.record(0L, keyBytes, true, 0, 0);
            log.record(Long.MIN_VALUE, keyBytes, true, 0, 0);
            log.record(Long.MAX_VALUE, keyBytes, true, 0, 0);
            log.close(0);
            long all = keyBytes == 0 ? 0 : -1L >>> (64 - 8 * keyBytes);
            String of = " of " + keyBytes + " bytes";
            due.answer("all bits" + of, log.told(0, 2), all);
            due.answer("no bit" + of, log.told(1, 2), 0);
            due.answer("the highest bit" + of, log.told(2, 2), keyBytes == 8 ? Long.MIN_VALUE : 0);
            due.answer("all other bits" + of, log.told(3, 2), keyBytes == 8 ? Long.MAX_VALUE : all);
            for (int r = 0; r < 4; r++) {
                due.answer("length" + of, log.told(r, 1), keyBytes);
            }
        }
    }

    /** "a VALUE (a number) or none". */
    private static void tellsAValueOfZeroFromNone(Due due) {
        LogCleaner log = new LogCleaner();
        log.record(1, 1, true, 0, 0);
        log.record(2, 1, false, 0, 0);
        log.record(3, 1, false, 99, 0);
        log.close(-1);
        due.answer("a value of 0", log.told(0, 3), 0);
        due.answer("it is there", log.told(0, 4), 1);
        due.answer("no value", log.told(1, 3), 0);
        due.answer("it is not there", log.told(1, 4), 0);
        due.answer("no value, whatever the call says", log.told(2, 3), 0);
        due.answer("nor is this one", log.told(2, 4), 0);
        due.answer("the size", log.batch(0, 3), 61 + 17 + 9 + 9);
        Logs.wall(log, 0);
        due.answer("clean takes those without a value", log.clean(1000), 2);
        due.answer("and leaves the value of 0", log.latest(1, 1), 0);
    }

    /** "a VALUE (a number) .., a TIME": the ends of long and of int. */
    private static void hasNumbersAtTheirEnds(Due due) {
        long[] values = {Long.MIN_VALUE, Long.MAX_VALUE, -1, 0, Integer.MIN_VALUE, 1L << 32};
        LogCleaner log = new LogCleaner();
        for (long value : values) {
            log.record(1, 1, true, value, 0);
            log.record(1, 1, true, value, Integer.MAX_VALUE);
        }
        log.close(0);
        for (int i = 0; i < values.length; i++) {
            due.answer("a value", log.told(2 * i, 3), values[i]);
            due.answer("the least time", log.told(2 * i, 5), 0);
            due.answer("the value again", log.told(2 * i + 1, 3), values[i]);
            due.answer("the greatest time", log.told(2 * i + 1, 5), Integer.MAX_VALUE);
        }
    }

    /** "a BASE, the offset that its first record had": had, so it may have gone since. */
    private static void keepsABaseWhoseRecordWent(Due due) {
        LogCleaner log = new LogCleaner();
        Logs.many(log, 0, 3, 5);
        Logs.many(log, 3, 2, 5);
        Logs.wall(log, 3);
        Logs.one(log, 1, -1);
        Logs.many(log, 0, 2, -1);
        due.answer("clean", log.clean(0), 4);
        due.text("bases", Logs.bases(log), "0 3 5 45 46");
        due.text("records", Logs.lengths(log), "1 0 40 1 2");
        due.answer("the record that is left", log.told(0, 0), 2);
    }

    /** "a PRODUCER (-1 for none)". */
    private static void hasProducersFromNone(Due due) {
        int[] producers = {-1, 0, 1, Integer.MAX_VALUE - 1, Integer.MAX_VALUE};
        LogCleaner log = new LogCleaner();
        for (int b = 0; b < producers.length; b++) {
            Logs.one(log, b, producers[b]);
            due.answer("the producer", log.batch(b, 2), producers[b]);
        }
    }

    /** "a SIZE: 61, and for each of its records 8, how many bytes its key has, and 8 if it has a value". */
    private static void hasSizesOfOneRecord(Due due) {
        LogCleaner log = new LogCleaner();
        for (int keyBytes = -1; keyBytes <= 8; keyBytes++) {
            int b = 2 * (keyBytes + 1);
            log.record(-1, keyBytes, false, -1, 0);
            log.close(0);
            due.answer("size without a value", log.batch(b, 3), 69 + Math.max(keyBytes, 0));
            log.record(-1, keyBytes, true, 0, 0);
            log.close(0);
            due.answer("size with a value", log.batch(b + 1, 3), 77 + Math.max(keyBytes, 0));
        }
    }

    /** The same: a batch without records, one that lost some, and the least and largest of a full draft. */
    private static void hasSizesOfNoneAndOfAHundred(Due due) {
        LogCleaner log = new LogCleaner();
        Logs.one(log, 0, 3);
        Logs.many(log, 0, 100, -1);
        Logs.many(log, 0, 1, -1);
        for (int i = 0; i < 100; i++) {
            log.record(-1, -1, false, -1, 0);
        }
        log.close(-1);
        Logs.one(log, 0, -1);
        due.text("sizes", Logs.sizes(log), "78 2461 85 861 78");
        due.answer("clean", log.clean(0), 2);
        due.text("sizes of what is left", Logs.sizes(log), "61 2437 85 861 78");
    }
}
