/** Promise 4: clean. */
public final class Promise4CleanTest {
    public static void main(String[] args) {
        Due due = new Due();
        refusesWrongArguments(due);
        leavesTheOpenSegment(due);
        takesWhatALaterOneReplaces(due);
        tellsKeysApart(due);
        leavesRecordsWithoutAKey(due);
        leavesWordsThatAKeyIsGoneForAWhile(due);
        takesAKeyWithItsLastWord(due);
        leavesTheDraft(due);
        leavesWhatTheLogKnows(due);
        takesABatchThatTheLogKnewOnce(due);
        packsAnew(due);
        packsNothingIfNothingGoes(due);
        keepsALargeBatchAlone(due);
        keepsTheRoomOfTheOpenSegment(due);
        due.end();
    }

    /** "Illegal argument: time is below 0". */
    private static void refusesWrongArguments(Due due) {
        LogCleaner log = new LogCleaner();
        Logs.one(log, 1, -1);
        Logs.one(log, 1, -1);
        Logs.wall(log, 0);
        due.illegalArgument("clean at -1", log, () -> log.clean(-1));
        due.illegalArgument("clean long ago", log, () -> log.clean(Integer.MIN_VALUE));
        due.answer("clean at 0", log.clean(0), 1);
        due.answer("clean at the end", log.clean(Integer.MAX_VALUE), 0);
        LogCleaner empty = new LogCleaner();
        due.illegalArgument("clean of nothing at -1", empty, () -> empty.clean(-1));
    }

    /** "a record of a closed segment GOES". */
    private static void leavesTheOpenSegment(Due due) {
        LogCleaner log = new LogCleaner();
        Logs.one(log, 1, -1);
        Logs.one(log, 1, -1);
        log.record(2, 1, false, 0, 0);
        log.close(-1);
        String before = Logs.state(log);
        due.answer("clean of an open segment", log.clean(9000), 0);
        due.text("the log", Logs.state(log), before);
        Logs.wall(log, 0);
        due.answer("clean of the closed segment", log.clean(9000), 2);
        due.text("what is left before the wall", Logs.bases(log), "1 3");
    }

    /** "if a later record in the log (in any segment) has the same key". */
    private static void takesWhatALaterOneReplaces(Due due) {
        LogCleaner log = new LogCleaner();
        log.record(1, 1, true, 10, 0);
        log.record(2, 1, true, 20, 0);
        log.record(1, 1, false, 0, 0);
        log.record(3, 1, true, 30, 0);
        log.close(-1);
        log.record(2, 1, true, 21, 0);
        log.record(1, 1, true, 11, 0);
        log.close(-1);
        Logs.wall(log, 0);
        log.record(3, 1, false, 0, 0);
        log.close(-1);
        due.answer("clean", log.clean(0), 4);
        due.answer("the later ones of the same and of the open segment count", log.told(0, 0), 4);
        due.answer("records", log.count(0), 43);
        due.answer("the emptied batch went", log.batch(0, 0), 4);
        due.answer("latest of 1", log.latest(1, 1), 5);
        due.answer("latest of 2", log.latest(2, 1), 4);
        due.answer("latest of 3", log.latest(3, 1), 46);
        due.answer("clean again", log.clean(0), 0);
    }

    /** "has the same key": as many bytes, and the same ones. */
    private static void tellsKeysApart(Due due) {
        LogCleaner log = new LogCleaner();
        for (int keyBytes = -1; keyBytes <= 8; keyBytes++) {
            log.record(0, keyBytes, true, 0, 0);
        }
        log.record(0x01FF, 1, true, 0, 0);
        log.record(0x02FF, 1, true, 0, 0);
        log.record(0x01FF, 2, true, 0, 0);
        log.record(0x02FF, 2, true, 0, 0);
        log.record(0x7F00000000000001L, 8, true, 0, 0);
        log.record(0x7E00000000000001L, 8, true, 0, 0);
        log.record(0x7F00000000000001L, 7, true, 0, 0);
        log.record(0x7E00000000000001L, 7, true, 0, 0);
        log.close(-1);
        Logs.wall(log, 1000);
        due.answer("clean", log.clean(0), 2);
        due.answer("0x1FF of one byte went", log.told(10, 0), 11);
        due.answer("0x7F.. of seven bytes went", log.told(15, 0), 17);
    }

    /** "has the same key": those without a key have none. */
    private static void leavesRecordsWithoutAKey(Due due) {
        LogCleaner log = new LogCleaner();
        log.record(1, -1, true, 1, 0);
        log.record(1, -1, false, 1, 0);
        log.record(1, -1, true, 1, 0);
        log.close(-1);
        Logs.wall(log, 0);
        due.answer("clean", log.clean(Integer.MAX_VALUE), 0);
        due.answer("records", log.batch(0, 1), 3);
    }

    /** "a time that is not greater than that one less 1000". */
    private static void leavesWordsThatAKeyIsGoneForAWhile(Due due) {
        LogCleaner log = new LogCleaner();
        log.record(1, 1, false, 0, 500);
        log.record(2, 1, false, 0, 501);
        log.record(3, 1, true, 0, 0);
        log.record(4, 1, false, 0, Integer.MAX_VALUE);
        log.record(5, 0, false, 0, 0);
        log.close(-1);
        Logs.wall(log, 0);
        due.answer("clean at 0", log.clean(0), 0);
        due.answer("clean at 999", log.clean(999), 0);
        due.answer("clean at 1000", log.clean(1000), 1);
        due.answer("the empty key went", log.latest(0, 0), LogCleaner.NONE);
        due.answer("clean at 1499", log.clean(1499), 0);
        due.answer("clean at 1500", log.clean(1500), 1);
        due.answer("key 1 went", log.latest(1, 1), LogCleaner.NONE);
        due.answer("key 2 stays", log.latest(2, 1), 1);
        due.answer("clean at 1501", log.clean(1501), 1);
        due.answer("clean at the end", log.clean(Integer.MAX_VALUE), 0);
        due.answer("what is left", log.batch(0, 1), 2);
    }

    /** "a later record in the log": also one that goes itself. */
    private static void takesAKeyWithItsLastWord(Due due) {
        LogCleaner log = new LogCleaner();
        log.record(1, 1, true, 7, 5000);
        log.record(1, 1, false, 0, 100);
        log.close(-1);
        Logs.wall(log, 0);
        due.answer("clean", log.clean(1100), 2);
        due.answer("latest", log.latest(1, 1), LogCleaner.NONE);
        due.text("batches", Logs.bases(log), "2");
        due.text("segments", Logs.segments(log), "0");
        log.record(1, 1, true, 8, 5000);
        due.answer("offsets are not used again", log.close(-1), 42);
    }

    /** "a later record in the log": the draft is not in it. */
    private static void leavesTheDraft(Due due) {
        LogCleaner log = new LogCleaner();
        Logs.one(log, 1, -1);
        Logs.wall(log, 0);
        log.record(1, 1, false, 0, 0);
        due.answer("the draft replaces nothing", log.clean(9000), 0);
        due.answer("the draft", log.count(3), 1);
        log.close(-1);
        due.answer("the batch does", log.clean(0), 1);
    }

    /** "unless the log knows it". */
    private static void leavesWhatTheLogKnows(Due due) {
        LogCleaner log = new LogCleaner();
        Logs.one(log, 1, 4);
        Logs.one(log, 1, 4);
        Logs.one(log, 1, -1);
        Logs.one(log, 1, 4);
        Logs.one(log, 1, 9);
        Logs.one(log, 1, -1);
        Logs.wall(log, 0);
        log.record(1, 1, true, 1, 0);
        log.close(-1);
        due.text("known", Logs.known(log), "0 1 0 1 1 0 0 0");
        due.answer("clean", log.clean(0), 6);
        due.text("batches", Logs.bases(log), "1 3 4 6 46");
        due.text("known then", Logs.known(log), "1 1 1 0 0");
        due.answer("records of an empty batch", log.batch(0, 1), 0);
        due.answer("size of an empty batch", log.batch(0, 3), 61);
        due.answer("its producer", log.batch(0, 2), 4);
        due.answer("clean again", log.clean(0), 0);
        due.text("batches again", Logs.bases(log), "1 3 4 6 46");
    }

    /** "A closed segment's batch of which no record is left goes, too": in a later cleaning, if it was known. */
    private static void takesABatchThatTheLogKnewOnce(Due due) {
        LogCleaner log = new LogCleaner();
        Logs.one(log, 1, 4);
        Logs.one(log, 1, 4);
        Logs.wall(log, 0);
        Logs.wall(log, 100);
        Logs.one(log, 1, -1);
        log.clean(0);
        due.text("segments with empty batches", Logs.segments(log), "0 0 1 2 3");
        Logs.one(log, 2, 4);
        due.text("known", Logs.known(log), "0 1 0 0 0 1");
        due.answer("clean without a record", log.clean(0), 0);
        due.text("batches", Logs.bases(log), "1 2 42 82 83");
        due.text("segments", Logs.segments(log), "0 1 2 3 3");
        Logs.one(log, 3, 4);
        due.answer("clean without a record again", log.clean(0), 0);
        due.text("the last empty batch went", Logs.bases(log), "2 42 82 83 84");
        due.text("segments then", Logs.segments(log), "0 1 2 2 2");
        due.answer("how many", log.count(2), 3);
    }

    /** "All that stay of closed segments come into new ones, in their order". */
    private static void packsAnew(Due due) {
        LogCleaner log = new LogCleaner();
        Logs.many(log, 0, 30, -1);
        Logs.many(log, 100, 30, -1);
        Logs.many(log, 200, 30, -1);
        Logs.many(log, 0, 20, -1);
        Logs.many(log, 100, 20, -1);
        Logs.one(log, 1, -1);
        due.text("segments before", Logs.segments(log), "0 1 2 3 4 4");
        due.answer("clean", log.clean(0), 40);
        due.text("sizes of 301, 301, 781, 541, 541 and 78", Logs.segments(log), "0 0 1 2 3 3");
        due.answer("the open one stays behind", log.count(2), 4);
        due.text("bases stay", Logs.bases(log), "0 30 60 90 110 130");
        due.answer("the first record left", log.told(0, 0), 20);
        due.answer("its batch's size", log.batch(0, 3), 301);
    }

    /** "If no record and no batch goes, segments stay as they are". */
    private static void packsNothingIfNothingGoes(Due due) {
        LogCleaner log = new LogCleaner();
        Logs.many(log, 0, 30, -1);
        Logs.many(log, 0, 20, -1);
        due.answer("clean before the open one", log.clean(0), 20);
        due.text("301 and 541 apart", Logs.segments(log), "0 1");
        Logs.wall(log, 100);
        due.answer("clean of nothing", log.clean(0), 0);
        due.text("they stay apart", Logs.segments(log), "0 1 2");
        Logs.many(log, 29, 1, -1);
        due.answer("clean of one", log.clean(0), 1);
        due.text("and come together", Logs.segments(log), "0 0 1 2");
    }

    /** "as if they came anew there": one of more than 1000 lies alone. */
    private static void keepsALargeBatchAlone(Due due) {
        LogCleaner log = new LogCleaner();
        Logs.one(log, 1, -1);
        Logs.one(log, 1, -1);
        Logs.wall(log, 0);
        Logs.one(log, 2, -1);
        Logs.one(log, 2, -1);
        Logs.wall(log, 100);
        due.text("segments before", Logs.segments(log), "0 0 1 2 2 3");
        due.answer("clean", log.clean(0), 2);
        due.text("segments", Logs.segments(log), "0 1 2 3");
        Logs.recordMany(log, 0, 1);
        log.close(-1);
        due.answer("clean of a large one's record", log.clean(0), 1);
        due.answer("it has room now", log.batch(1, 3), 997);
        due.text("but 78 more have not", Logs.segments(log), "0 1 2 3 4");
        Logs.many(log, 1, 4, -1);
        due.answer("clean of four more", log.clean(0), 4);
        due.text("they lie together: 78, 901", Logs.segments(log), "0 0 1 2 3 3");
    }

    /** "the open one stays behind these": with the room that it had. */
    private static void keepsTheRoomOfTheOpenSegment(Due due) {
        LogCleaner log = new LogCleaner();
        Logs.wall(log, 0);
        Logs.wall(log, 0);
        Logs.many(log, 100, 30, -1);
        due.answer("clean", log.clean(0), 40);
        due.text("segments", Logs.segments(log), "0 1");
        Logs.many(log, 200, 6, -1);
        due.text("205 bytes have room beside 781", Logs.segments(log), "0 1 1");
        Logs.one(log, 1, -1);
        due.text("78 more have not", Logs.segments(log), "0 1 1 2");
    }
}
