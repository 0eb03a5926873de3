/** Promise 3: close, and how batches come to lie in segments. */
public final class Promise3CloseTest {
    public static void main(String[] args) {
        Due due = new Due();
        answersTheBase(due);
        refusesAProducerBelowNone(due);
        refusesAnEmptyDraft(due);
        refusesMoreThanFourHundred(due);
        throwsIllegalArgumentFirst(due);
        takesAFullDraft(due);
        fillsASegmentToTheBrim(due);
        opensASegmentForOneByteTooMuch(due);
        leavesALargeBatchAlone(due);
        fitsALargeBatchOfAThousand(due);
        due.end();
    }

    /** "The draft becomes a batch of a producer, behind the log, and is empty then: its BASE". */
    private static void answersTheBase(Due due) {
        LogCleaner log = new LogCleaner();
        Logs.recordMany(log, 0, 3);
        due.answer("the first close", log.close(5), 0);
        due.answer("the draft", log.count(3), 0);
        Logs.recordMany(log, 0, 2);
        due.answer("the second close", log.close(-1), 3);
        log.record(0, 0, false, 0, 0);
        due.answer("the third close", log.close(Integer.MAX_VALUE), 5);
        due.text("offsets", Logs.offsets(log), "0 1 2 3 4 5");
        due.text("bases", Logs.bases(log), "0 3 5");
        due.answer("the first producer", log.batch(0, 2), 5);
        due.answer("the second producer", log.batch(1, 2), -1);
        due.answer("the third producer", log.batch(2, 2), Integer.MAX_VALUE);
    }

    /** "Illegal argument: the producer is below -1". */
    private static void refusesAProducerBelowNone(Due due) {
        LogCleaner log = new LogCleaner();
        log.record(1, 1, true, 1, 1);
        due.illegalArgument("close for -2", log, () -> log.close(-2));
        due.illegalArgument("close for the least", log, () -> log.close(Integer.MIN_VALUE));
        due.answer("the draft", log.count(3), 1);
        due.answer("close for -1", log.close(-1), 0);
        log.record(2, 1, true, 2, 2);
        due.answer("close for 0", log.close(0), 1);
        log.record(3, 1, true, 3, 3);
        due.answer("close for the last", log.close(Integer.MAX_VALUE), 2);
    }

    /** "illegal state: also if the draft is empty". */
    private static void refusesAnEmptyDraft(Due due) {
        LogCleaner log = new LogCleaner();
        due.illegalState("close of an empty draft", log, () -> log.close(0));
        log.record(1, 1, true, 1, 1);
        due.answer("close of one record", log.close(0), 0);
        due.illegalState("close once more", log, () -> log.close(0));
        due.illegalState("close once more for none", log, () -> log.close(-1));
        due.text("the log", Logs.counts(log), "1 1 1 0 1");
    }

    /** "or there are 400 batches". More calls than 512 are needed; the class keeps the bound there. */
    private static void refusesMoreThanFourHundred(Due due) {
        LogCleaner log = with400();
        due.illegalState("close of an empty draft with 400 batches", log, () -> log.close(0));
        due.answer("a record", log.record(400, 8, true, 400, 0), 1);
        due.illegalState("close with 400 batches", log, () -> log.close(0));
        due.answer("the draft", log.count(3), 1);
        due.answer("drop", log.drop(1), 11);
        due.answer("close with room", log.close(0), 400);
        due.answer("batches", log.count(1), 390);
    }

    private static LogCleaner with400() {
        LogCleaner log = new LogCleaner();
        for (int b = 0; b < 400; b++) {
            Logs.many(log, b, 1, 0);
        }
        return log;
    }

    /** "Of several exceptions the one named first is thrown". */
    private static void throwsIllegalArgumentFirst(Due due) {
        LogCleaner empty = new LogCleaner();
        due.illegalArgument("close of an empty draft for -2", empty, () -> empty.close(-2));
        LogCleaner full = with400();
        due.illegalArgument("close of an empty draft with 400 batches for -2", full, () -> full.close(-2));
        full.record(1, 1, true, 1, 1);
        due.illegalArgument("close with 400 batches for -2", full, () -> full.close(-2));
    }

    /** "The draft becomes a batch .. and is empty then": all hundred of them, in their order. */
    private static void takesAFullDraft(Due due) {
        LogCleaner log = new LogCleaner();
        Logs.recordMany(log, 500, 100);
        due.answer("close", log.close(0), 0);
        due.text("counts", Logs.counts(log), "100 1 1 0 100");
        for (int r = 0; r < 100; r++) {
            due.answer("an offset", log.told(r, 0), r);
            due.answer("a key", log.told(r, 2), 500 + r);
        }
    }

    /** A batch of 541 bytes, then one of 61 + 16 * 24 + 8 + lastKeyBytes. */
    private static LogCleaner twoBatches(int lastKeyBytes) {
        LogCleaner log = new LogCleaner();
        Logs.many(log, 0, 20, 0);
        Logs.recordMany(log, 0, 16);
        log.record(0, lastKeyBytes, false, 0, 0);
        log.close(0);
        return log;
    }

    /** "up to 1000 of their sizes together": 1000 are not too much. */
    private static void fillsASegmentToTheBrim(Due due) {
        LogCleaner log = twoBatches(6);
        due.answer("both sizes", log.batch(0, 3) + log.batch(1, 3), 1000);
        due.text("segments of 1000", Logs.segments(log), "0 0");
        due.answer("how many", log.count(2), 1);
        Logs.one(log, 1, 0);
        due.text("segments behind 1000", Logs.segments(log), "0 0 1");
        due.answer("how many then", log.count(2), 2);
    }

    /** "in the open one if it has room, else in a new one": 1001 are too much. */
    private static void opensASegmentForOneByteTooMuch(Due due) {
        LogCleaner log = twoBatches(7);
        due.answer("both sizes", log.batch(0, 3) + log.batch(1, 3), 1001);
        due.text("segments of 1001", Logs.segments(log), "0 1");
        Logs.one(log, 1, 0);
        due.text("a small one lies in the open segment alone", Logs.segments(log), "0 1 1");
    }

    /** "(So does one of more than 1000, alone.)" */
    private static void leavesALargeBatchAlone(Due due) {
        LogCleaner first = new LogCleaner();
        Logs.wall(first, 0);
        due.text("a large one first", Logs.segments(first), "0");
        Logs.one(first, 1, 0);
        Logs.one(first, 1, 0);
        Logs.wall(first, 0);
        Logs.wall(first, 0);
        Logs.one(first, 1, 0);
        due.text("large ones among others", Logs.segments(first), "0 1 1 2 3 4");
        due.answer("segments", first.count(2), 5);
    }

    /** "up to 1000 of their sizes together": a batch of 1000 fills a segment. */
    private static void fitsALargeBatchOfAThousand(Due due) {
        LogCleaner log = new LogCleaner();
        Logs.recordMany(log, 0, 38);
        log.record(0, 8, false, 0, 0);
        log.record(0, 3, false, 0, 0);
        log.close(0);
        due.answer("its size", log.batch(0, 3), 1000);
        Logs.one(log, 1, 0);
        due.text("segments", Logs.segments(log), "0 1");
    }
}
