/** Terms: the edges of cleaning, a sentence or a part of one a method. */
public final class TermsCleaningTest {
    private static final int LAST = Integer.MAX_VALUE;

    public static void main(String[] args) {
        Due due = new Due();
        cleansNothingOfNothing(due);
        takesNothingOfTheOpenSegment(due);
        takesForALaterOneInAnySegment(due);
        takesForALaterOneThatGoesToo(due);
        takesNothingForALaterOneOfTheDraft(due);
        takesForTheSameKeyOnly(due);
        takesNothingForNoKey(due);
        takesAWordAtItsLastTime(due);
        takesAWordAtTheEndsOfTime(due);
        takesWordsOnly(due);
        takesAWordThatIsTheLatest(due);
        takesABatchWithItsLastRecord(due);
        leavesAnEmptyBatchThatTheLogKnows(due);
        takesAnEmptyBatchThatTheLogKnowsNoMore(due);
        packsUpTo1000Anew(due);
        packsInTheirOrder(due);
        packsOneOfMoreThan1000Alone(due);
        packsOneThatWasMoreThan1000(due);
        packsNothingThatIsLeft(due);
        packsEmptyBatches(due);
        leavesTheOpenOneBehind(due);
        leavesTheRoomOfTheOpenOne(due);
        leavesSegmentsIfNothingGoes(due);
        packsIfOnlyABatchGoes(due);
        due.end();
    }

    /** A word that a key is gone, in a batch of its own. */
    private static void word(LogCleaner log, long key, int time) {
        log.record(key, 1, false, 0, time);
        log.close(-1);
    }

    private static void stays(Due due, String what, LogCleaner log, int time) {
        String before = Logs.state(log);
        due.answer("clean of " + what, log.clean(time), 0);
        due.text("the state after cleaning " + what, Logs.state(log), before);
    }

    /** "CLEANING at a time": an empty log, and one with a draft alone. */
    private static void cleansNothingOfNothing(Due due) {
        LogCleaner log = new LogCleaner();
        stays(due, "an empty log", log, 0);
        stays(due, "an empty log at the last time", log, LAST);
        log.record(1, 1, false, 0, 0);
        log.record(1, 1, false, 0, 0);
        stays(due, "a draft", log, LAST);
        due.answer("the draft", log.count(3), 2);
    }

    /** "a record of a closed segment GOES": none of the open one does, by either reason. */
    private static void takesNothingOfTheOpenSegment(Due due) {
        LogCleaner log = new LogCleaner();
        Logs.one(log, 1, -1);
        Logs.one(log, 1, -1);
        word(log, 2, 0);
        stays(due, "the only segment", log, LAST);
        LogCleaner behind = new LogCleaner();
        Logs.wall(behind, 0);
        Logs.one(behind, 1, -1);
        Logs.one(behind, 1, -1);
        word(behind, 2, 0);
        stays(due, "the second segment", behind, LAST);
        Logs.wall(behind, 100);
        due.answer("clean when it is closed", behind.clean(LAST), 2);
        due.text("what is left", Logs.bases(behind), "0 41 43");
    }

    /** "if a later record in the log (in any segment) has the same key". */
    private static void takesForALaterOneInAnySegment(Due due) {
        LogCleaner log = new LogCleaner();
        log.record(1, 1, true, 0, 0);
        log.record(1, 1, true, 0, 0);
        log.record(2, 1, true, 0, 0);
        log.record(3, 1, true, 0, 0);
        log.record(4, 1, true, 0, 0);
        log.record(5, 1, true, 0, 0);
        log.close(-1);
        Logs.one(log, 2, -1);
        Logs.wall(log, 0);
        Logs.one(log, 3, -1);
        Logs.wall(log, 100);
        Logs.one(log, 4, -1);
        due.text("segments", Logs.segments(log), "0 0 1 2 3 4");
        due.answer("same batch, same segment, a closed one, the open one", log.clean(0), 4);
        due.text("what is left", Logs.lengths(log), "2 1 40 1 40 1");
        due.answer("the last of its batch", log.told(0, 0), 1);
        due.answer("the only one with its key", log.told(1, 0), 5);
    }

    /** "if a later record in the log has the same key": also if that one goes in the same cleaning. */
    private static void takesForALaterOneThatGoesToo(Due due) {
        LogCleaner log = new LogCleaner();
        log.record(1, 1, true, 0, LAST);
        log.record(1, 1, true, 0, LAST);
        log.record(1, 1, false, 0, 0);
        log.close(-1);
        Logs.wall(log, 0);
        due.answer("clean", log.clean(1000), 3);
        due.answer("latest", log.latest(1, 1), LogCleaner.NONE);
    }

    /** "a later record in the log": the draft is not in it, and what is earlier is not later. */
    private static void takesNothingForALaterOneOfTheDraft(Due due) {
        LogCleaner log = new LogCleaner();
        Logs.one(log, 1, -1);
        Logs.wall(log, 0);
        log.record(1, 1, true, 0, 0);
        stays(due, "what the draft replaces", log, LAST);
        log.close(-1);
        due.answer("clean when it is closed", log.clean(0), 1);
        due.answer("the later one stays", log.latest(1, 1), 41);
        Logs.wall(log, 100);
        stays(due, "the later one alone", log, LAST);
    }

    /** "has the same key": as many bytes, and all of them the same. */
    private static void takesForTheSameKeyOnly(Due due) {
        for (int keyBytes = 0; keyBytes <= 8; keyBytes++) {
            LogCleaner log = new LogCleaner();
            log.record(0x5AL, keyBytes, true, 0, 0);
            log.close(-1);
            Logs.wall(log, 1000);
            for (int other = -1; other <= 8; other++) {
                if (other != keyBytes) {
                    log.record(0x5AL, other, true, 0, 0);
                }
            }
            for (int bit = 0; bit < 8 * keyBytes; bit += 7) {
                log.record(0x5AL ^ (1L << bit), keyBytes, true, 0, 0);
            }
            log.close(-1);
            stays(due, "a key of " + keyBytes + " bytes", log, 0);
            long beyond = keyBytes == 8 ? 0 : 1L << (8 * keyBytes);
            log.record(0x5AL ^ beyond, keyBytes, true, 0, 0);
            log.close(-1);
            due.answer("clean of the same key", log.clean(0), 1);
            due.answer("the first batch went", log.batch(0, 0), 1);
        }
    }

    /** "has the same key": no key is not the same as no key. */
    private static void takesNothingForNoKey(Due due) {
        LogCleaner log = new LogCleaner();
        log.record(1, -1, true, 0, 0);
        log.record(1, -1, true, 0, 0);
        log.close(-1);
        Logs.wall(log, 0);
        log.record(1, -1, true, 0, 0);
        log.record(0, 0, true, 0, 0);
        log.close(-1);
        stays(due, "records without a key", log, LAST);
    }

    /** "a time that is not greater than that one less 1000". */
    private static void takesAWordAtItsLastTime(Due due) {
        int[] times = {0, 1, 999, 1000, 1001, LAST - 1000};
        for (int time : times) {
            LogCleaner log = new LogCleaner();
            word(log, 1, time);
            Logs.wall(log, 0);
            stays(due, "a word of " + time + " too early", log, time + 999);
            due.answer("clean of a word of " + time, log.clean(time + 1000), 1);
            LogCleaner late = new LogCleaner();
            word(late, 1, time);
            Logs.wall(late, 0);
            due.answer("clean long after a word of " + time, late.clean(LAST), 1);
        }
    }

    /** The same where "less 1000" is below 0, and where the word's time and 1000 are more than an int. */
    private static void takesAWordAtTheEndsOfTime(Due due) {
        LogCleaner early = new LogCleaner();
        word(early, 1, 0);
        Logs.wall(early, 0);
        stays(due, "a word of 0 at 0", early, 0);
        stays(due, "a word of 0 at 1", early, 1);
        stays(due, "a word of 0 at 999", early, 999);
        LogCleaner late = new LogCleaner();
        word(late, 1, LAST);
        word(late, 2, LAST - 999);
        word(late, 3, LAST - 1000);
        Logs.wall(late, 0);
        stays(due, "the last words at 0", late, 0);
        stays(due, "the last words before the end", late, LAST - 1);
        due.answer("clean at the end", late.clean(LAST), 1);
        due.answer("the last word stays", late.latest(1, 1), 0);
        due.answer("so does the one before", late.latest(2, 1), 1);
        due.answer("the third does not", late.latest(3, 1), LogCleaner.NONE);
    }

    /** "it has a key, no value, and a time": each of the three is needed. */
    private static void takesWordsOnly(Due due) {
        LogCleaner log = new LogCleaner();
        log.record(1, -1, false, 0, 0);
        log.record(2, 1, true, 0, 0);
        log.record(3, -1, true, 0, 0);
        log.record(4, 1, false, 0, 1);
        log.record(5, 0, false, 0, 0);
        log.record(6, 8, false, 0, 0);
        log.close(-1);
        Logs.wall(log, 100);
        due.answer("clean", log.clean(1000), 2);
        due.answer("a key of no bytes is one", log.latest(5, 0), LogCleaner.NONE);
        due.answer("so is one of eight", log.latest(6, 8), LogCleaner.NONE);
        due.answer("the others stay", log.batch(0, 1), 4);
        due.answer("the last of them", log.told(3, 0), 3);
    }

    /** "or if": a word goes though no later record has its key, and one that is replaced goes before its time. */
    private static void takesAWordThatIsTheLatest(Due due) {
        LogCleaner log = new LogCleaner();
        word(log, 1, 500);
        word(log, 2, 500);
        Logs.one(log, 2, -1);
        Logs.wall(log, 0);
        due.answer("clean before their time", log.clean(0), 1);
        due.text("the replaced one went", Logs.bases(log), "0 2 3");
        due.answer("clean at their time", log.clean(1500), 1);
        due.text("the latest went", Logs.bases(log), "2 3");
    }

    /** "A closed segment's batch of which no record is left goes, too". */
    private static void takesABatchWithItsLastRecord(Due due) {
        LogCleaner log = new LogCleaner();
        Logs.many(log, 0, 2, -1);
        Logs.wall(log, 100);
        Logs.many(log, 1, 1, -1);
        due.answer("clean of one of two", log.clean(0), 1);
        due.text("a record is left", Logs.bases(log), "0 2 42");
        Logs.many(log, 0, 1, -1);
        due.answer("clean of the other", log.clean(0), 1);
        due.text("none is left", Logs.bases(log), "2 42 43");
    }

    /** "unless the log knows it". */
    private static void leavesAnEmptyBatchThatTheLogKnows(Due due) {
        int[] producers = {-1, 0, LAST};
        String[] left = {"3 43", "1 2 3 43", "1 2 3 43"};
        for (int i = 0; i < producers.length; i++) {
            LogCleaner log = new LogCleaner();
            for (int n = 0; n < 3; n++) {
                Logs.one(log, 1, producers[i]);
            }
            Logs.wall(log, 0);
            Logs.one(log, 1, -1);
            due.answer("clean", log.clean(0), 3);
            due.text("batches of " + producers[i], Logs.bases(log), left[i]);
            due.answer("records", log.count(0), 41);
            stays(due, "what was cleaned", log, LAST);
        }
    }

    /** "unless the log knows it": a batch that was left empty goes when it is not known any more. */
    private static void takesAnEmptyBatchThatTheLogKnowsNoMore(Due due) {
        LogCleaner log = new LogCleaner();
        Logs.one(log, 1, 5);
        Logs.wall(log, 0);
        Logs.one(log, 1, 5);
        due.answer("clean", log.clean(0), 1);
        due.text("one later batch", Logs.bases(log), "0 1 41");
        Logs.one(log, 2, 6);
        stays(due, "what another producer's batch leaves", log, 0);
        Logs.one(log, 3, 5);
        due.answer("clean with two later ones", log.clean(0), 0);
        due.text("it went", Logs.bases(log), "1 41 42 43");
        due.text("so segments moved", Logs.segments(log), "0 1 1 1");
    }

    /** A small batch that goes, batches of these sizes, a wall, and the open one by which the first one goes. */
    private static void packs(Due due, String segments, int... sizes) {
        LogCleaner log = new LogCleaner();
        Logs.one(log, 1, -1);
        for (int size : sizes) {
            Logs.sized(log, size);
        }
        Logs.wall(log, 1000);
        Logs.one(log, 1, -1);
        due.answer("clean", log.clean(0), 1);
        due.text("segments of what stays", Logs.segments(log), segments);
    }

    /** "as if they came anew there": up to 1000 of their sizes together. */
    private static void packsUpTo1000Anew(Due due) {
        packs(due, "0 0 1 2", 931, 69);
        packs(due, "0 1 2 3", 932, 69);
        packs(due, "0 0 1 2", 69, 931);
        packs(due, "0 1 2 3", 69, 932);
        packs(due, "0 0 0 1 1 1 2 3", 300, 400, 300, 300, 400, 300);
        packs(due, "0 0 0 1 1 2 3 4", 300, 400, 300, 300, 400, 301);
        packs(due, "0 1 2 3", 1000, 69);
    }

    /** "in their order": no small one goes before a larger one to fill a segment. */
    private static void packsInTheirOrder(Due due) {
        packs(due, "0 1 2 3 4", 600, 500, 501);
        packs(due, "0 1 2 2 3 4", 400, 700, 400, 600);
    }

    /** "as if they came anew there": so does one of more than 1000, alone. */
    private static void packsOneOfMoreThan1000Alone(Due due) {
        packs(due, "0 1 2", 1001);
        packs(due, "0 1 2 3 4", 69, 1001, 69);
        packs(due, "0 1 2 3", 1001, 1200);
    }

    /** "as if they came anew there": with the size that they have now. */
    private static void packsOneThatWasMoreThan1000(Due due) {
        LogCleaner log = new LogCleaner();
        Logs.sized(log, 73);
        Logs.many(log, 0, 40, -1);
        Logs.wall(log, 1000);
        Logs.many(log, 0, 3, -1);
        due.answer("clean of three records", log.clean(0), 3);
        due.answer("its size", log.batch(1, 3), 949);
        due.text("1022 lie apart", Logs.segments(log), "0 1 2 3");
        Logs.many(log, 3, 1, -1);
        due.answer("clean of a fourth record", log.clean(0), 1);
        due.answer("its size then", log.batch(1, 3), 925);
        due.text("998 lie together", Logs.segments(log), "0 0 1 2 2");
    }

    /** "All that stay of closed segments": if none stays, the open one is the only one. */
    private static void packsNothingThatIsLeft(Due due) {
        LogCleaner log = new LogCleaner();
        Logs.wall(log, 0);
        Logs.wall(log, 0);
        Logs.wall(log, 0);
        due.text("segments", Logs.segments(log), "0 1 2");
        due.answer("clean", log.clean(0), 80);
        due.text("the open one", Logs.segments(log), "0");
        due.text("counts", Logs.counts(log), "40 1 1 0 120");
        stays(due, "the open one alone", log, LAST);
        due.answer("drop", log.drop(400), 0);
    }

    /** "All that stay": empty batches take 61 each; sixteen are 976. */
    private static void packsEmptyBatches(Due due) {
        LogCleaner log = new LogCleaner();
        for (int n = 0; n < 18; n++) {
            Logs.one(log, 1, n);
        }
        Logs.wall(log, 0);
        Logs.one(log, 1, -1);
        due.answer("clean", log.clean(0), 18);
        due.text("segments", Logs.segments(log), "0 0 0 0 0 0 0 0 0 0 0 0 0 0 0 0 1 1 2 3");
        due.text("counts", Logs.counts(log), "41 20 4 0 59");
        due.answer("drop of sixteen empty ones", log.drop(1), 0);
        due.text("segments then", Logs.segments(log), "0 0 1 2");
    }

    /** "the open one stays behind these": it is not packed with them, though there is room. */
    private static void leavesTheOpenOneBehind(Due due) {
        LogCleaner log = new LogCleaner();
        Logs.many(log, 0, 30, -1);
        Logs.many(log, 0, 29, -1);
        due.answer("clean", log.clean(0), 29);
        due.text("sizes", Logs.sizes(log), "85 757");
        due.text("segments", Logs.segments(log), "0 1");
        Logs.sized(log, 100);
        due.text("the next one comes to the open one", Logs.segments(log), "0 1 1");
    }

    /** "the open one stays": with what it holds, so that it has room up to 1000 as before. */
    private static void leavesTheRoomOfTheOpenOne(Due due) {
        int[] sizes = {499, 500, 501};
        String[] segments = {"0 1 1 2", "0 1 1 2", "0 1 2 2"};
        for (int i = 0; i < sizes.length; i++) {
            LogCleaner log = new LogCleaner();
            Logs.wall(log, 0);
            Logs.many(log, 0, 39, -1);
            due.answer("the open one's size", log.batch(1, 3), 997);
            Logs.sized(log, 500);
            due.answer("clean", log.clean(0), 39);
            due.text("85, 997 and the open one", Logs.segments(log), "0 1 2");
            due.answer("drop", log.drop(1), 1);
            Logs.sized(log, sizes[i]);
            Logs.sized(log, 69);
            due.text("500 and " + sizes[i] + " and 69", Logs.segments(log), segments[i]);
        }
    }

    /** "If no record and no batch goes, segments stay as they are", though they could be packed closer. */
    private static void leavesSegmentsIfNothingGoes(Due due) {
        LogCleaner log = new LogCleaner();
        Logs.many(log, 0, 30, -1);
        Logs.many(log, 0, 29, -1);
        log.clean(0);
        Logs.wall(log, 100);
        due.text("85 and 757 apart", Logs.segments(log), "0 1 2");
        stays(due, "what could be packed closer", log, LAST);
        Logs.one(log, 1, -1);
        stays(due, "the same with one more segment", log, LAST);
        Logs.many(log, 28, 1, -1);
        due.answer("clean of one record", log.clean(0), 1);
        due.text("85 and 733 together", Logs.segments(log), "0 0 1 2 2");
    }

    /** "If no record and no batch goes": if a batch goes alone, all is packed anew. */
    private static void packsIfOnlyABatchGoes(Due due) {
        LogCleaner log = new LogCleaner();
        Logs.one(log, 1, 5);
        Logs.many(log, 0, 30, -1);
        Logs.many(log, 0, 29, -1);
        Logs.one(log, 1, 5);
        due.answer("clean", log.clean(0), 30);
        Logs.wall(log, 1000);
        due.text("sizes", Logs.sizes(log), "61 85 757 78 1021");
        due.text("segments", Logs.segments(log), "0 0 1 1 2");
        stays(due, "what could be packed closer", log, LAST);
        Logs.one(log, 2, 5);
        due.answer("clean of no record", log.clean(0), 0);
        due.text("sizes without the empty batch", Logs.sizes(log), "85 757 78 1021 78");
        due.text("segments then", Logs.segments(log), "0 0 0 1 2");
    }
}
