import java.util.LinkedHashMap;
import java.util.Map;
import java.util.function.Consumer;
import java.util.function.ToLongFunction;

/**
 * Terms: "In all calls illegal argument: a number is out of its bounds, or there is no such thing.
 * Illegal state: there would be too many records or batches. Of several exceptions the one named
 * first is thrown; a call that throws changes nothing." Each wrong call is made in each of several
 * states, and what follows is that of a twin that was never asked wrongly.
 */
public final class TermsRefusedCallsTest {
    private static final int LEAST = Integer.MIN_VALUE;
    private static final int MOST = Integer.MAX_VALUE;

    private final Due due = new Due();
    private final Map<String, ToLongFunction<LogCleaner>> wrong = new LinkedHashMap<>();

    public static void main(String[] args) {
        TermsRefusedCallsTest test = new TermsRefusedCallsTest();
        test.nameWrongCalls();
        test.tryStates();
        test.due.end();
    }

    private void nameWrongCalls() {
        for (int n : new int[] {LEAST, -2, 9, MOST}) {
            wrong.put("record of " + n + " bytes", log -> log.record(1, n, true, 1, 0));
            wrong.put("record of " + n + " bytes at -1", log -> log.record(1, n, false, 1, -1));
        }
        for (int n : new int[] {LEAST, -1}) {
            wrong.put("record at " + n, log -> log.record(1, 1, true, 1, n));
            wrong.put("record without a key at " + n, log -> log.record(1, -1, false, 1, n));
            wrong.put("clean at " + n, log -> log.clean(n));
        }
        for (int n : new int[] {LEAST, -2}) {
            wrong.put("close for " + n, log -> log.close(n));
        }
        for (int n : new int[] {LEAST, -1, 401, MOST}) {
            wrong.put("drop of " + n, log -> log.drop(n));
        }
        for (int n : new int[] {LEAST, -1, 5, MOST}) {
            wrong.put("count of " + n, log -> log.count(n));
        }
        for (int n : new int[] {LEAST, -1, 9, MOST}) {
            wrong.put("latest of " + n + " bytes", log -> log.latest(1, n));
        }
        for (int n : new int[] {LEAST, -1, 6, MOST}) {
            nameWrongParts(n);
        }
        for (int what = 0; what <= 5; what++) {
            nameWrongPlaces(what);
        }
    }

    /** Of the first, of the last, and of one that is not there. */
    private void nameWrongParts(int what) {
        wrong.put("part " + what + " of batch 0", log -> log.batch(0, what));
        wrong.put("part " + what + " of the last batch", log -> log.batch(log.count(1) - 1, what));
        wrong.put("part " + what + " of no batch", log -> log.batch(log.count(1), what));
        wrong.put("part " + what + " of record 0", log -> log.told(0, what));
        wrong.put("part " + what + " of the last record", log -> log.told(log.count(0) - 1, what));
        wrong.put("part " + what + " of no record", log -> log.told(log.count(0), what));
    }

    private void nameWrongPlaces(int what) {
        for (int n : new int[] {LEAST, -1, MOST}) {
            wrong.put("part " + what + " of batch " + n, log -> log.batch(n, what));
            wrong.put("part " + what + " of record " + n, log -> log.told(n, what));
        }
        wrong.put("part " + what + " behind the last batch", log -> log.batch(log.count(1), what));
        wrong.put("part " + what + " behind the last record", log -> log.told(log.count(0), what));
    }

    private void tryStates() {
        tryState("a new log", log -> { }, false, true);
        tryState("a draft of one", log -> Logs.recordMany(log, 0, 1), false, false);
        tryState("a full draft", log -> Logs.recordMany(log, 0, 100), true, false);
        tryState("a batch", log -> Logs.one(log, 1, 0), false, true);
        tryState("closed segments", TermsRefusedCallsTest::leadToClosedSegments, false, false);
        tryState("an empty batch", TermsRefusedCallsTest::leadToAnEmptyBatch, false, true);
        tryState("a dropped segment", TermsRefusedCallsTest::leadToADrop, false, false);
        tryState("400 batches", log -> leadTo400Batches(log, 0), false, true);
        tryState("400 batches and a draft", log -> leadTo400Batches(log, 1), false, true);
        tryState("4000 records", log -> leadTo4000Records(log, 100, true), true, true);
        tryState("4000 records with the draft's", log -> leadTo4000Records(log, 40, false), true, false);
    }

    private static void leadToClosedSegments(LogCleaner log) {
        log.record(1, 1, false, 0, 0);
        log.record(2, 1, true, 2, 0);
        log.close(3);
        Logs.wall(log, 0);
        Logs.one(log, 2, 3);
        log.record(2, 1, true, 2, 0);
        log.record(3, 1, false, 2, 7);
    }

    private static void leadToAnEmptyBatch(LogCleaner log) {
        leadToClosedSegments(log);
        log.close(3);
        log.clean(1000);
    }

    private static void leadToADrop(LogCleaner log) {
        leadToClosedSegments(log);
        log.drop(1);
    }

    private static void leadTo400Batches(LogCleaner log, int draft) {
        for (int b = 0; b < 400; b++) {
            Logs.one(log, b, 0);
        }
        Logs.recordMany(log, 0, draft);
    }

    private static void leadTo4000Records(LogCleaner log, int last, boolean close) {
        for (int b = 0; b < 39; b++) {
            Logs.many(log, 0, 100, 0);
        }
        Logs.recordMany(log, 0, 100 - last);
        if (last < 100) {
            log.close(0);
        }
        Logs.recordMany(log, 0, last);
        if (close) {
            log.close(0);
        }
    }

    private void tryState(String name, Consumer<LogCleaner> lead, boolean fullForRecord, boolean refusesClose) {
        LogCleaner log = new LogCleaner();
        lead.accept(log);
        wrong.forEach((call, made) ->
            due.illegalArgument(call + " in " + name, log, () -> made.applyAsLong(log)));
        if (fullForRecord) {
            due.illegalState("record in " + name, log, () -> log.record(5, 1, true, 5, 0));
            due.illegalState("record without a key in " + name, log, () -> log.record(5, -1, false, 5, MOST));
        }
        if (refusesClose) {
            due.illegalState("close in " + name, log, () -> log.close(0));
            due.illegalState("close for none in " + name, log, () -> log.close(-1));
            due.illegalState("close for the last in " + name, log, () -> log.close(MOST));
        }
        LogCleaner twin = new LogCleaner();
        lead.accept(twin);
        due.text("what follows " + name, whatFollows(log), whatFollows(twin));
    }

    /** What the draft holds, and how each segment is filled, shows only in later calls. */
    private static String whatFollows(LogCleaner log) {
        StringBuilder text = new StringBuilder(Logs.state(log));
        Due.Call[] calls = {
            () -> log.record(2, 1, false, 0, 400), () -> log.close(3), () -> log.record(9, 1, true, 0, 0),
            () -> log.close(3), () -> log.clean(1200), () -> log.clean(1400), () -> log.drop(1),
            () -> log.record(9, 0, true, 0, 0), () -> log.close(0), () -> log.clean(MOST),
        };
        for (Due.Call call : calls) {
            text.append("\n  ").append(Due.outcome(call)).append(": ").append(Logs.state(log));
        }
        return text.toString();
    }
}
