/** Promise 9: latest. */
public final class Promise9LatestTest {
    public static void main(String[] args) {
        Due due = new Due();
        refusesWrongArguments(due);
        findsTheLatest(due);
        tellsLengthsApart(due);
        findsKeysAtTheEndsOfLong(due);
        findsTheFirstOffset(due);
        forgetsWhatWent(due);
        due.end();
    }

    /** "Illegal argument: keyBytes are not 0 .. 8". */
    private static void refusesWrongArguments(Due due) {
        LogCleaner log = new LogCleaner();
        log.record(0, -1, true, 0, 0);
        log.close(0);
        int[] wrong = {-1, -2, 9, Integer.MIN_VALUE, Integer.MAX_VALUE};
        for (int keyBytes : wrong) {
            due.illegalArgument("latest of " + keyBytes + " bytes", log, () -> log.latest(0, keyBytes));
        }
        due.answer("latest of 8 bytes", log.latest(0, 8), LogCleaner.NONE);
        due.answer("a record without a key is not one with an empty key", log.latest(0, 0), LogCleaner.NONE);
    }

    /** "The offset of the latest record in the log with a key": the latest to come, whatever its time. */
    private static void findsTheLatest(Due due) {
        LogCleaner log = new LogCleaner();
        log.record(1, 1, true, 0, 9);
        log.record(2, 1, true, 0, 9);
        log.record(1, 1, true, 0, 3);
        log.close(0);
        due.answer("the later of one batch", log.latest(1, 1), 2);
        log.record(1, 1, false, 0, 0);
        due.answer("not the draft's", log.latest(1, 1), 2);
        log.close(0);
        due.answer("one without a value", log.latest(1, 1), 3);
        due.answer("the other key", log.latest(2, 1), 1);
        due.answer("a key that is not there", log.latest(3, 1), LogCleaner.NONE);
    }

    /** "with a key": the lowest keyBytes bytes, of each length. */
    private static void tellsLengthsApart(Due due) {
        LogCleaner log = new LogCleaner();
        long key = 0x8182838485868788L;
        for (int keyBytes = 0; keyBytes <= 8; keyBytes++) {
            log.record(key, keyBytes, true, 0, 0);
        }
        log.close(0);
        for (int keyBytes = 0; keyBytes <= 8; keyBytes++) {
            due.answer("latest of " + keyBytes + " bytes", log.latest(key, keyBytes), keyBytes);
            long beyond = keyBytes == 8 ? 0 : 1L << (8 * keyBytes);
            due.answer("only its lowest bytes count", log.latest(key ^ beyond, keyBytes), keyBytes);
            if (keyBytes > 0) {
                long highest = 1L << (8 * keyBytes - 1);
                due.answer("all of them count", log.latest(key ^ highest, keyBytes), LogCleaner.NONE);
            }
        }
    }

    /** "with a key": the ends of long are keys like others. */
    private static void findsKeysAtTheEndsOfLong(Due due) {
        long[] keys = {Long.MIN_VALUE, Long.MIN_VALUE + 1, -1, 0, Long.MAX_VALUE - 1, Long.MAX_VALUE};
        LogCleaner log = new LogCleaner();
        for (long key : keys) {
            due.answer("before it came", log.latest(key, 8), LogCleaner.NONE);
            log.record(key, 8, true, 0, 0);
            log.close(0);
        }
        for (int i = 0; i < keys.length; i++) {
            due.answer("latest", log.latest(keys[i], 8), i);
        }
    }

    /** "NONE without one": the offset 0 is not none, and an empty log has none. */
    private static void findsTheFirstOffset(Due due) {
        LogCleaner log = new LogCleaner();
        due.answer("of an empty log", log.latest(0, 0), LogCleaner.NONE);
        log.record(5, 0, true, 0, 0);
        due.answer("of a draft", log.latest(0, 0), LogCleaner.NONE);
        log.close(0);
        due.answer("of the first record", log.latest(0, 0), 0);
        due.answer("of another length", log.latest(0, 1), LogCleaner.NONE);
    }

    /** "in the log; NONE without one". */
    private static void forgetsWhatWent(Due due) {
        LogCleaner log = new LogCleaner();
        log.record(1, 1, true, 0, 0);
        log.record(2, 1, false, 0, 0);
        log.close(-1);
        Logs.wall(log, 0);
        Logs.wall(log, 100);
        log.clean(1000);
        due.answer("a key that went by cleaning", log.latest(2, 1), LogCleaner.NONE);
        due.answer("a key that stays", log.latest(1, 1), 0);
        log.drop(1);
        due.answer("a key that went by dropping", log.latest(1, 1), LogCleaner.NONE);
        due.answer("a key of the next segment", log.latest(39, 8), 41);
        due.answer("a key of the open segment", log.latest(139, 8), 81);
    }
}
