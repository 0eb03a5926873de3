/** Terms: the edges of segments, and of what the log knows, a sentence a method. */
public final class TermsSegmentsTest {
    public static void main(String[] args) {
        Due due = new Due();
        hasNoSegmentAtFirst(due);
        holdsUpTo1000OfOneBatch(due);
        holdsUpTo1000OfTwoBatches(due);
        holdsUpTo1000OfMany(due);
        opensASegmentBehindAFullOne(due);
        looksForRoomInTheOpenOneOnly(due);
        laysOneOfMoreThan1000Alone(due);
        laysOneOfMoreThan1000BehindOthers(due);
        closesAllButTheLast(due);
        knowsTwoOfAProducer(due);
        knowsEachProducersOwn(due);
        knowsNothingOfNoProducer(due);
        knowsOnlyWhatIsInTheLog(due);
        knowsBatchesWithoutRecords(due);
        due.end();
    }

    private static LogCleaner sized(int... sizes) {
        LogCleaner log = new LogCleaner();
        for (int size : sizes) {
            Logs.sized(log, size);
        }
        return log;
    }

    private static void lie(Due due, String segments, int... sizes) {
        LogCleaner log = sized(sizes);
        StringBuilder text = new StringBuilder();
        for (int size : sizes) {
            text.append(text.length() == 0 ? "" : " ").append(size);
        }
        due.text("the sizes", Logs.sizes(log), text.toString());
        due.text("segments of " + text, Logs.segments(log), segments);
        due.answer("how many", log.count(2), log.batch(sizes.length - 1, 4) + 1);
    }

    /** "SEGMENTS hold batches": without a batch there is none; the first batch makes the first. */
    private static void hasNoSegmentAtFirst(Due due) {
        LogCleaner log = new LogCleaner();
        due.answer("segments of nothing", log.count(2), 0);
        log.record(1, 1, true, 1, 0);
        due.answer("segments of a draft", log.count(2), 0);
        log.close(0);
        due.answer("segments of a batch", log.count(2), 1);
        due.answer("where it is", log.batch(0, 4), 0);
    }

    /** "up to 1000 of their sizes together", of one that nothing may lie beside. */
    private static void holdsUpTo1000OfOneBatch(Due due) {
        lie(due, "0", 1000);
        lie(due, "0 1", 1000, 69);
        lie(due, "0 1", 69, 1000);
        lie(due, "0 1", 1000, 1000);
    }

    /** "up to 1000 of their sizes together": 999, 1000 and 1001 of two. */
    private static void holdsUpTo1000OfTwoBatches(Due due) {
        lie(due, "0 0", 930, 69);
        lie(due, "0 0", 931, 69);
        lie(due, "0 1", 932, 69);
        lie(due, "0 0", 69, 930);
        lie(due, "0 0", 69, 931);
        lie(due, "0 1", 69, 932);
        lie(due, "0 0", 500, 500);
        lie(due, "0 1", 500, 501);
        lie(due, "0 1", 501, 500);
    }

    /** The same of many: fourteen of the least are 966, and each segment is filled anew. */
    private static void holdsUpTo1000OfMany(Due due) {
        LogCleaner log = new LogCleaner();
        for (int b = 0; b < 43; b++) {
            Logs.least(log, 0);
            due.answer("the segment of batch " + b, log.batch(b, 4), b / 14);
            due.answer("segments", log.count(2), b / 14 + 1);
        }
        lie(due, "0 0 0 1 1 1 2", 300, 400, 300, 300, 400, 300, 69);
        lie(due, "0 0 0 1 1 2", 300, 400, 300, 300, 400, 301);
    }

    /** "lies in the open one if it has room, else in a new one, which is the open one then". */
    private static void opensASegmentBehindAFullOne(Due due) {
        LogCleaner log = sized(1000);
        due.answer("a full one is open", log.clean(0), 0);
        due.answer("and not dropped", log.drop(1), 0);
        Logs.least(log, 0);
        due.text("the next one lies behind it", Logs.segments(log), "0 1");
        Logs.least(log, 0);
        due.text("and so does the one behind that", Logs.segments(log), "0 1 1");
        due.answer("the full one is not open then", log.drop(400), 59);
        due.text("the open one stays", Logs.segments(log), "0 0");
    }

    /** "in the open one if it has room": room before the open one is not asked for. */
    private static void looksForRoomInTheOpenOneOnly(Due due) {
        lie(due, "0 1 2", 100, 950, 100);
        lie(due, "0 1 1 2 3", 600, 401, 599, 500, 501);
    }

    /** "(So does one of more than 1000, alone.)", first, last and behind another one. */
    private static void laysOneOfMoreThan1000Alone(Due due) {
        lie(due, "0", 1001);
        lie(due, "0 1", 1001, 69);
        lie(due, "0 1", 69, 1001);
        lie(due, "0 1", 1001, 1001);
        LogCleaner log = new LogCleaner();
        Logs.many(log, 0, 100, 0);
        Logs.many(log, 0, 100, 0);
        due.text("the largest", Logs.segments(log), "0 1");
    }

    /** The same: those behind it find room in the one that they make, not in the one before it. */
    private static void laysOneOfMoreThan1000BehindOthers(Due due) {
        lie(due, "0 0 1 2 2 3 4", 69, 69, 1200, 69, 931, 69, 1001);
    }

    /** "the last one is OPEN, others are CLOSED": with one, two and three segments. */
    private static void closesAllButTheLast(Due due) {
        LogCleaner log = new LogCleaner();
        log.record(1, 1, false, 0, 0);
        log.close(-1);
        due.answer("clean of the only one", log.clean(9000), 0);
        log.record(2, 1, false, 0, 0);
        Logs.recordMany(log, 0, 40);
        log.close(-1);
        due.answer("clean of the first of two", log.clean(9000), 1);
        due.answer("key 1", log.latest(1, 1), LogCleaner.NONE);
        due.answer("key 2", log.latest(2, 1), 1);
        log.record(3, 1, false, 0, 0);
        log.close(-1);
        due.answer("clean of the first then", log.clean(9000), 1);
        due.answer("key 2 then", log.latest(2, 1), LogCleaner.NONE);
        due.answer("key 3", log.latest(3, 1), 42);
    }

    /** "the latest two (all, if less) of its batches". */
    private static void knowsTwoOfAProducer(Due due) {
        int[] producers = {0, 1, Integer.MAX_VALUE};
        String[] known = {"", "1", "1 1", "0 1 1", "0 0 1 1"};
        for (int producer : producers) {
            LogCleaner log = new LogCleaner();
            for (int n = 0; n < known.length; n++) {
                due.text("known of " + n, Logs.known(log), known[n]);
                log.record(n, 1, true, n, 0);
                due.text("the draft is no batch", Logs.known(log), known[n]);
                log.close(producer);
            }
        }
    }

    /** "of each producer": those of others, before, between and behind, do not count. */
    private static void knowsEachProducersOwn(Due due) {
        int[] producers = {7, 8, 7, 7, 8, 9, 8};
        LogCleaner log = new LogCleaner();
        for (int i = 0; i < producers.length; i++) {
            Logs.one(log, i, producers[i]);
        }
        due.text("known", Logs.known(log), "0 0 1 1 1 1 1");
    }

    /** "of each producer": -1 is none. */
    private static void knowsNothingOfNoProducer(Due due) {
        LogCleaner log = new LogCleaner();
        String[] known = {"", "0", "0 0", "0 0 0"};
        for (int n = 0; n < known.length; n++) {
            due.text("known of " + n, Logs.known(log), known[n]);
            Logs.one(log, n, -1);
        }
    }

    /** "of its batches that are in the log": what was dropped is not. */
    private static void knowsOnlyWhatIsInTheLog(Due due) {
        LogCleaner log = new LogCleaner();
        for (int i = 0; i < 4; i++) {
            Logs.many(log, i * 100, 40, 6);
        }
        due.text("four", Logs.known(log), "0 0 1 1");
        log.drop(1);
        due.text("three", Logs.known(log), "0 1 1");
        log.drop(1);
        due.text("two", Logs.known(log), "1 1");
        log.drop(1);
        due.text("one", Logs.known(log), "1");
        Logs.many(log, 900, 40, 6);
        due.text("two again", Logs.known(log), "1 1");
    }

    /** "of its batches that are in the log": one without records is in it as long as it stays. */
    private static void knowsBatchesWithoutRecords(Due due) {
        LogCleaner log = new LogCleaner();
        Logs.one(log, 2, 6);
        Logs.one(log, 1, 6);
        Logs.one(log, 1, 6);
        Logs.wall(log, 0);
        Logs.one(log, 1, -1);
        due.answer("clean", log.clean(0), 2);
        due.text("records", Logs.lengths(log), "1 0 0 40 1");
        due.text("the empty ones are the latest two", Logs.known(log), "0 1 1 0 0");
        Logs.one(log, 3, 6);
        due.text("one of them still is", Logs.known(log), "0 0 1 0 0 1");
    }
}
