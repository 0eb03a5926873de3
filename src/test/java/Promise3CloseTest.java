/** Promise 3: close, and how batches come to lie in segments. */
public final class Promise3CloseTest {
    public static void main(String[] args) {
        Due due = new Due();
        answersTheBase(due);
        refusesWrongArguments(due);
        refusesMoreThanFourHundred(due);
        fillsASegmentToTheBrim(due);
        opensASegmentForOneByteTooMuch(due);
        leavesALargeBatchAlone(due);
        fitsALargeBatchOfAThousand(due);
        due.end();
    }

    private static void answersTheBase(Due due) {
        LogCleaner log = new LogCleaner();
        Logs.recordMany(log, 0, 3);
        due.answer("the first close", log.close(5), 0);
        due.answer("the draft", log.count(3), 0);
        Logs.recordMany(log, 0, 2);
        due.answer("the second close", log.close(-1), 3);
        log.record(0, 0, false, 0, 0);
        due.answer("the third close", log.close(Integer.MAX_VALUE), 5);
        due.text("offsets", Logs.offsets(log), "0 1 2 3 4 5");
        due.text("bases", Logs.bases(log), "0 3 5");
        due.answer("the first producer", log.batch(0, 2), 5);
        due.answer("the second producer", log.batch(1, 2), -1);
        due.answer("the third producer", log.batch(2, 2), Integer.MAX_VALUE);
    }

    private static void refusesWrongArguments(Due due) {
        LogCleaner log = new LogCleaner();
        due.illegalState("close of an empty draft", log, () -> log.close(0));
        due.illegalArgument("close of an empty draft for -2", log, () -> log.close(-2));
        log.record(1, 1, true, 1, 1);
        due.illegalArgument("close for -2", log, () -> log.close(-2));
        due.illegalArgument("close for the lowest", log, () -> log.close(Integer.MIN_VALUE));
        due.answer("close for 0", log.close(0), 0);
        due.illegalState("close once more", log, () -> log.close(0));
    }

    /** These are more calls than the document promises anything for; the bound holds there, too. */
    private static void refusesMoreThanFourHundred(Due due) {
        LogCleaner log = new LogCleaner();
        for (int b = 0; b < 400; b++) {
            log.record(b, 8, true, b, 0);
            due.answer("close " + b, log.close(0), b);
        }
        due.illegalState("close of an empty draft with 400 batches", log, () -> log.close(0));
        due.answer("a record", log.record(400, 8, true, 400, 0), 1);
        due.illegalState("close with 400 batches", log, () -> log.close(0));
        due.illegalArgument("close with 400 batches for -2", log, () -> log.close(-2));
        due.answer("the draft", log.count(3), 1);
        due.answer("drop", log.drop(1), 11);
        due.answer("close with room", log.close(0), 400);
        due.answer("batches", log.count(1), 390);
    }

    /** A batch of 541 bytes, then one of 61 + 16 * 24 + 8 + lastKeyBytes. */
    private static LogCleaner twoBatches(int lastKeyBytes) {
        LogCleaner log = new LogCleaner();
        Logs.many(log, 0, 20, 0);
        Logs.recordMany(log, 0, 16);
        log.record(0, lastKeyBytes, false, 0, 0);
        log.close(0);
        return log;
    }

    private static void fillsASegmentToTheBrim(Due due) {
        LogCleaner log = twoBatches(6);
        due.answer("both sizes", log.batch(0, 3) + log.batch(1, 3), 1000);
        due.text("segments of 1000", Logs.segments(log), "0 0");
        due.answer("how many", log.count(2), 1);
        Logs.one(log, 1, 0);
        due.text("segments behind 1000", Logs.segments(log), "0 0 1");
        due.answer("how many then", log.count(2), 2);
    }

    private static void opensASegmentForOneByteTooMuch(Due due) {
        LogCleaner log = twoBatches(7);
        due.answer("both sizes", log.batch(0, 3) + log.batch(1, 3), 1001);
        due.text("segments of 1001", Logs.segments(log), "0 1");
        Logs.one(log, 1, 0);
        due.text("a small one lies in the open segment alone", Logs.segments(log), "0 1 1");
    }

    private static void leavesALargeBatchAlone(Due due) {
        LogCleaner first = new LogCleaner();
        Logs.wall(first, 0);
        due.text("a large one first", Logs.segments(first), "0");
        Logs.one(first, 1, 0);
        Logs.one(first, 1, 0);
        Logs.wall(first, 0);
        Logs.wall(first, 0);
        Logs.one(first, 1, 0);
        due.text("large ones among others", Logs.segments(first), "0 1 1 2 3 4");
        due.answer("segments", first.count(2), 5);
    }

    private static void fitsALargeBatchOfAThousand(Due due) {
        LogCleaner log = new LogCleaner();
        Logs.recordMany(log, 0, 38);
        log.record(0, 8, false, 0, 0);
        log.record(0, 3, false, 0, 0);
        log.close(0);
        due.answer("its size", log.batch(0, 3), 1000);
        Logs.one(log, 1, 0);
        due.text("segments", Logs.segments(log), "0 1");
    }
}
