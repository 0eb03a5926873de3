/** Promise 8: told. */
public final class Promise8ToldTest {
    public static void main(String[] args) {
        Due due = new Due();
        refusesARecordThatIsNotThere(due);
        refusesAPartThatIsNotThere(due);
        refusesARecordThatWent(due);
        tellsEachPart(due);
        findsRecordsBehindEmptyBatches(due);
        due.end();
    }

    /** "Of record r (from 0) of the log": the first, the last, and one beside each; not the draft's. */
    private static void refusesARecordThatIsNotThere(Due due) {
        LogCleaner log = new LogCleaner();
        due.illegalArgument("record 0 of none", log, () -> log.told(0, 0));
        log.record(1, 1, true, 1, 1);
        due.illegalArgument("record 0 of the draft", log, () -> log.told(0, 0));
        log.close(0);
        Logs.many(log, 0, 3, 0);
        log.record(1, 1, true, 1, 1);
        due.answer("the first", log.told(0, 0), 0);
        due.answer("the last", log.told(3, 0), 3);
        int[] wrong = {-1, 4, 4000, Integer.MIN_VALUE, Integer.MAX_VALUE};
        for (int r : wrong) {
            for (int what = 0; what <= 5; what++) {
                int part = what;
                due.illegalArgument("record " + r, log, () -> log.told(r, part));
            }
        }
    }

    /** "what = 0 .. 5 .. Illegal argument", of a record that is there and of one that is not. */
    private static void refusesAPartThatIsNotThere(Due due) {
        LogCleaner log = new LogCleaner();
        Logs.many(log, 0, 4, 0);
        int[] wrong = {-1, 6, Integer.MIN_VALUE, Integer.MAX_VALUE};
        for (int what : wrong) {
            due.illegalArgument("part " + what, log, () -> log.told(3, what));
            due.illegalArgument("part " + what + " of no record", log, () -> log.told(4, what));
        }
    }

    /** "there is no such thing": r counts what is in the log, so what went moves the others. */
    private static void refusesARecordThatWent(Due due) {
        LogCleaner log = new LogCleaner();
        Logs.one(log, 1, -1);
        Logs.wall(log, 0);
        Logs.one(log, 1, -1);
        due.answer("the last", log.told(41, 0), 41);
        log.clean(0);
        due.answer("the last after cleaning", log.told(40, 0), 41);
        due.illegalArgument("one more", log, () -> log.told(41, 0));
        log.drop(1);
        due.answer("the last after dropping", log.told(0, 0), 41);
        due.illegalArgument("one more then", log, () -> log.told(1, 0));
    }

    /** "what = 0 its offset, 1 .. (NONE for none), 2 .. (0 for none), 3 .. (0 for none), 4 .. 1 or 0, 5 its time". */
    private static void tellsEachPart(Due due) {
        LogCleaner log = new LogCleaner();
        log.record(0x1234, 1, true, -5, 6);
        log.record(77, -1, true, Long.MAX_VALUE, 0);
        log.close(0);
        log.record(-1, 8, false, 9, Integer.MAX_VALUE);
        log.record(-1, 7, true, 0, 3);
        log.record(-1, 0, false, 0, 4);
        log.record(77, -1, false, 8, 5);
        log.close(-1);
        long[][] want = {
            {0, 1, 0x34, -5, 1, 6},
            {1, -1, 0, Long.MAX_VALUE, 1, 0},
            {2, 8, -1, 0, 0, Integer.MAX_VALUE},
            {3, 7, 0xFFFFFFFFFFFFFFL, 0, 1, 3},
            {4, 0, 0, 0, 0, 4},
            {5, -1, 0, 0, 0, 5},
        };
        for (int r = 0; r < want.length; r++) {
            for (int what = 0; what <= 5; what++) {
                due.answer("part " + what + " of record " + r, log.told(r, what), want[r][what]);
            }
        }
    }

    /** "Of record r (from 0) of the log": a batch without records counts for none. */
    private static void findsRecordsBehindEmptyBatches(Due due) {
        LogCleaner log = new LogCleaner();
        Logs.one(log, 1, 0);
        Logs.one(log, 1, 0);
        Logs.one(log, 2, 1);
        Logs.wall(log, 0);
        Logs.one(log, 1, -1);
        log.clean(0);
        due.answer("batches", log.count(1), 5);
        due.answer("the first record", log.told(0, 0), 2);
        due.answer("the second record", log.told(1, 0), 3);
        due.answer("the last record", log.told(41, 0), 43);
        due.illegalArgument("one more", log, () -> log.told(42, 0));
    }
}
