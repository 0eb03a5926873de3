/** "What it is": the document's first sentence, a part of it a method. */
public final class WhatItIsTest {
    private static final int KEYS = 5;

    public static void main(String[] args) {
        Due due = new Due();
        keepsTheLatestOfEachKey(due);
        keepsWordsForAWhile(due);
        keepsWhatAProducerSentLast(due);
        letsTheRestGo(due);
        packsWhatIsLeftAnew(due);
        due.end();
    }

    /** Three rounds of the keys, each in a closed segment of its own; the values tell the rounds. */
    private static LogCleaner threeRounds() {
        LogCleaner log = new LogCleaner();
        for (int round = 0; round < 3; round++) {
            for (int key = 0; key < KEYS; key++) {
                log.record(key, 1, true, 10 * round + key, round);
            }
            log.close(-1);
            Logs.wall(log, 100 * round);
        }
        return log;
    }

    /** "of each key the latest record stays": as it came, with all that is told of it. */
    private static void keepsTheLatestOfEachKey(Due due) {
        LogCleaner log = threeRounds();
        due.answer("the records of two rounds go", log.clean(0), 2 * KEYS);
        for (int key = 0; key < KEYS; key++) {
            int r = 80 + key;
            due.answer("latest of key " + key, log.latest(key, 1), 90 + key);
            due.answer("its offset", log.told(r, 0), 90 + key);
            due.answer("its bytes", log.told(r, 1), 1);
            due.answer("its key", log.told(r, 2), key);
            due.answer("its value", log.told(r, 3), 20 + key);
            due.answer("it has one", log.told(r, 4), 1);
            due.answer("its time", log.told(r, 5), 2);
        }
        due.answer("nothing goes once more", log.clean(Integer.MAX_VALUE), 0);
    }

    /** "words that a key is gone for a while": the word stays when what it replaced has gone, then it goes. */
    private static void keepsWordsForAWhile(Due due) {
        LogCleaner log = new LogCleaner();
        log.record(1, 1, true, 7, 0);
        log.record(1, 1, false, 0, 500);
        log.close(-1);
        Logs.wall(log, 0);
        due.answer("what the word replaced goes", log.clean(500), 1);
        due.answer("the word is there", log.latest(1, 1), 1);
        due.answer("it has no value", log.told(0, 4), 0);
        due.answer("clean within the while", log.clean(1499), 0);
        due.answer("the word is there still", log.latest(1, 1), 1);
        due.answer("clean behind the while", log.clean(1500), 1);
        due.answer("the word has gone", log.latest(1, 1), LogCleaner.NONE);
    }

    /** "what a producer sent last, if only as an empty batch": of producers, not of no producer. */
    private static void keepsWhatAProducerSentLast(Due due) {
        LogCleaner log = new LogCleaner();
        int[] producers = {0, 1, 1, 0, 1, -1};
        for (int producer : producers) {
            Logs.one(log, 1, producer);
        }
        Logs.wall(log, 0);
        Logs.one(log, 1, -1);
        due.answer("clean", log.clean(0), 6);
        due.text("the latest two of each are left", Logs.bases(log), "0 2 3 4 6 46");
        due.text("without their records", Logs.lengths(log), "0 0 0 0 40 1");
    }

    /** "the rest goes": a batch that no producer is known by, with its last record. */
    private static void letsTheRestGo(Due due) {
        LogCleaner log = threeRounds();
        log.clean(0);
        due.text("batches", Logs.bases(log), "5 50 90 95");
        due.text("records", Logs.lengths(log), "40 40 5 40");
        due.text("counts", Logs.counts(log), "125 4 4 0 135");
    }

    /** "what is left is packed anew": what lay in segments of their own comes to lie in one. */
    private static void packsWhatIsLeftAnew(Due due) {
        LogCleaner log = new LogCleaner();
        for (int i = 0; i < 3; i++) {
            log.record(i, 1, true, i, 0);
            Logs.recordMany(log, 0, 40);
            log.close(-1);
        }
        Logs.wall(log, 0);
        due.text("segments", Logs.segments(log), "0 1 2 3");
        due.answer("clean", log.clean(0), 120);
        due.text("segments then", Logs.segments(log), "0 0 0 1");
        due.text("sizes then", Logs.sizes(log), "78 78 78 1021");
    }
}
