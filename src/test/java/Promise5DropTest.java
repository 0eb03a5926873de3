/** Promise 5: drop. */
public final class Promise5DropTest {
    public static void main(String[] args) {
        Due due = new Due();
        refusesWrongArguments(due);
        dropsTheFirst(due);
        neverDropsTheOpenOne(due);
        forgetsWhatItDrops(due);
        dropsEmptyBatches(due);
        dropsOfOneSegment(due);
        leavesTheRoomOfTheOpenOne(due);
        due.end();
    }

    /** Five segments, the last one with two batches. */
    private static LogCleaner fiveSegments() {
        LogCleaner log = new LogCleaner();
        Logs.many(log, 0, 40, 0);
        Logs.many(log, 100, 41, 1);
        Logs.many(log, 200, 42, 0);
        Logs.many(log, 300, 43, 1);
        Logs.one(log, 1, 0);
        Logs.one(log, 2, 2);
        return log;
    }

    /** "Illegal argument: n is not 0 .. 400". */
    private static void refusesWrongArguments(Due due) {
        LogCleaner log = fiveSegments();
        int[] wrong = {-1, 401, Integer.MIN_VALUE, Integer.MAX_VALUE};
        for (int n : wrong) {
            due.illegalArgument("drop of " + n, log, () -> log.drop(n));
        }
        due.answer("drop of 0", log.drop(0), 0);
        due.answer("drop of 400", log.drop(400), 166);
        due.illegalArgument("drop of 401 when none is closed", log, () -> log.drop(401));
        LogCleaner empty = new LogCleaner();
        due.illegalArgument("drop of 401 of nothing", empty, () -> empty.drop(401));
        due.answer("drop of 400 of nothing", empty.drop(400), 0);
    }

    /** "The first n segments go ..: how many records went". */
    private static void dropsTheFirst(Due due) {
        LogCleaner log = fiveSegments();
        log.record(7, 1, true, 7, 7);
        String before = Logs.state(log);
        due.answer("drop of none", log.drop(0), 0);
        due.text("the log", Logs.state(log), before);
        due.answer("drop of two", log.drop(2), 81);
        due.text("batches", Logs.bases(log), "81 123 166 167");
        due.text("segments", Logs.segments(log), "0 1 2 2");
        due.answer("records", log.count(0), 87);
        due.answer("segments", log.count(2), 3);
        due.answer("the draft", log.count(3), 1);
        due.answer("the next offset", log.count(4), 168);
        due.answer("the first record", log.told(0, 0), 81);
        due.answer("the next batch", log.close(0), 168);
        due.text("segments then", Logs.segments(log), "0 1 2 2 2");
    }

    /** "but not the open one (all others, if there are less)": one less, as many, one more, all. */
    private static void neverDropsTheOpenOne(Due due) {
        LogCleaner log = fiveSegments();
        due.answer("drop of all", log.drop(400), 166);
        due.text("batches", Logs.bases(log), "166 167");
        due.text("segments", Logs.segments(log), "0 0");
        due.answer("drop of the open one", log.drop(1), 0);
        due.answer("drop of all again", log.drop(400), 0);
        due.answer("batches", log.count(1), 2);
        LogCleaner exact = fiveSegments();
        due.answer("drop of five of five", exact.drop(5), 166);
        due.answer("segments", exact.count(2), 1);
        LogCleaner four = fiveSegments();
        due.answer("drop of four of five", four.drop(4), 166);
        LogCleaner three = fiveSegments();
        due.answer("drop of three of five", three.drop(3), 123);
    }

    /** "The first n segments go": with all that the log knew and told of them. */
    private static void forgetsWhatItDrops(Due due) {
        LogCleaner log = fiveSegments();
        due.text("known", Logs.known(log), "0 1 1 1 1 1");
        log.drop(3);
        due.text("known then", Logs.known(log), "1 1 1");
        due.answer("latest of what went", log.latest(200, 8), LogCleaner.NONE);
        due.answer("latest of what stays", log.latest(300, 8), 123);
        Logs.one(log, 3, 0);
        Logs.one(log, 4, 0);
        due.text("known of those in the log", Logs.known(log), "1 0 1 1 1");
    }

    /** "how many records went": none, if the batches of a segment are empty. */
    private static void dropsEmptyBatches(Due due) {
        LogCleaner log = new LogCleaner();
        Logs.one(log, 1, 0);
        Logs.one(log, 1, 1);
        Logs.wall(log, 0);
        Logs.one(log, 1, 0);
        due.answer("clean", log.clean(0), 2);
        due.answer("batches", log.count(1), 4);
        due.answer("drop of empty batches", log.drop(1), 0);
        due.text("batches then", Logs.bases(log), "2 42");
        due.text("segments then", Logs.segments(log), "0 1");
    }

    /** "but not the open one": with no segment and with one there is nothing to drop. */
    private static void dropsOfOneSegment(Due due) {
        LogCleaner log = new LogCleaner();
        due.answer("drop of one of none", log.drop(1), 0);
        log.record(1, 1, true, 1, 1);
        due.answer("drop with a draft alone", log.drop(400), 0);
        due.text("the draft stays", Logs.counts(log), "0 0 0 1 0");
        log.close(0);
        int[] all = {0, 1, 2, 400};
        for (int n : all) {
            due.answer("drop of " + n + " of one", log.drop(n), 0);
            due.text("it stays", Logs.counts(log), "1 1 1 0 1");
        }
        Logs.wall(log, 0);
        due.answer("drop of one of two", log.drop(1), 1);
        due.text("the second one stays", Logs.counts(log), "40 1 1 0 41");
    }

    /** "The first n segments go": the open one has the room that it had. */
    private static void leavesTheRoomOfTheOpenOne(Due due) {
        int[] sizes = {499, 500, 501};
        String[] segments = {"0 0", "0 0", "0 1"};
        for (int i = 0; i < sizes.length; i++) {
            LogCleaner log = new LogCleaner();
            Logs.sized(log, 900);
            Logs.sized(log, 500);
            log.drop(1);
            Logs.sized(log, sizes[i]);
            due.text("500 and " + sizes[i], Logs.segments(log), segments[i]);
        }
    }
}
