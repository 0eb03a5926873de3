/** What the tests do again and again with a log. */
final class Logs {
    static final int NO_PRODUCER = -1;

    private Logs() {
    }

    /** The questions of a log, whether of the class or of the model. */
    interface Count {
        long of(int what);
    }

    interface Parts {
        long of(int index, int what);
    }

    /** All that can be seen of a log, in one text. */
    static String state(LogCleaner log) {
        return state(log::count, log::batch, log::told);
    }

    static String state(Count count, Parts batch, Parts told) {
        StringBuilder text = new StringBuilder("counts");
        for (int what = 0; what <= 4; what++) {
            text.append(' ').append(count.of(what));
        }
        appendParts(text, "; batch", count.of(1), batch);
        appendParts(text, "; record", count.of(0), told);
        return text.toString();
    }

    private static void appendParts(StringBuilder text, String name, long length, Parts parts) {
        for (int i = 0; i < length; i++) {
            text.append(name);
            for (int what = 0; what <= 5; what++) {
                text.append(' ').append(parts.of(i, what));
            }
        }
    }

    /** The offsets of all records that are in the log. */
    static String offsets(LogCleaner log) {
        return row(log.count(0), r -> log.told(r, 0));
    }

    /** The bases of all batches that are in the log. */
    static String bases(LogCleaner log) {
        return row(log.count(1), b -> log.batch(b, 0));
    }

    /** The segments that the batches are in. */
    static String segments(LogCleaner log) {
        return row(log.count(1), b -> log.batch(b, 4));
    }

    /** How many records the batches have. */
    static String lengths(LogCleaner log) {
        return row(log.count(1), b -> log.batch(b, 1));
    }

    /** The sizes of the batches. */
    static String sizes(LogCleaner log) {
        return row(log.count(1), b -> log.batch(b, 3));
    }

    /** What count answers of 0, 1, 2, 3 and 4. */
    static String counts(LogCleaner log) {
        return row(5, log::count);
    }

    /** For each batch, whether the log knows it. */
    static String known(LogCleaner log) {
        return row(log.count(1), b -> log.batch(b, 5));
    }

    private interface Part {
        long at(int index);
    }

    private static String row(int length, Part part) {
        StringBuilder text = new StringBuilder();
        for (int i = 0; i < length; i++) {
            text.append(i == 0 ? "" : " ").append(part.at(i));
        }
        return text.toString();
    }

    /** A batch with one record that has a key of one byte and a value: 78 bytes. */
    static void one(LogCleaner log, long key, int producer) {
        log.record(key, 1, true, key, 0);
        log.close(producer);
    }

    /** A batch of n records of 24 bytes, with the keys from, from + 1, .. of eight bytes. */
    static void many(LogCleaner log, long from, int n, int producer) {
        recordMany(log, from, n);
        log.close(producer);
    }

    static void recordMany(LogCleaner log, long from, int n) {
        for (int i = 0; i < n; i++) {
            log.record(from + i, 8, true, from + i, 0);
        }
    }

    /** A batch of one record of the least size: no key, no value; it stays in every cleaning. */
    static void least(LogCleaner log, int producer) {
        log.record(0, LogCleaner.NONE, false, 0, 0);
        log.close(producer);
    }

    /**
     * A batch of exactly that size, 69 .. 1600, whose records stay in every cleaning: those without
     * a key for that reason, the one with a key (the next offset) as no other has it.
     */
    static void sized(LogCleaner log, int size) {
        int rest = size - 61;
        for (; rest >= 32; rest -= 16) {
            log.record(0, LogCleaner.NONE, true, 0, 0);
        }
        if (rest >= 24) {
            log.record(0, LogCleaner.NONE, false, 0, 0);
            rest -= 8;
        }
        boolean hasValue = rest >= 16;
        int keyBytes = rest - (hasValue ? 16 : 8);
        log.record(log.count(4), keyBytes == 0 ? LogCleaner.NONE : keyBytes, hasValue, 0, Integer.MAX_VALUE);
        log.close(NO_PRODUCER);
    }

    /** A batch of 61 + 40 * 24 = 1021 bytes: alone in its segment, so all before it is closed. */
    static void wall(LogCleaner log, long from) {
        many(log, from, 40, NO_PRODUCER);
    }
}
