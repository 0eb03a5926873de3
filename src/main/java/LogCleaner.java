/**
 * A log of records with keys that is cleaned: of each key the latest record stays, words that a
 * key is gone for a while, and what a producer sent last, if only as an empty batch; the rest
 * goes, and what is left is packed anew.
 */
public final class LogCleaner {
    /** There is none. */
    public static final int NONE = -1;

    private static final int MOST_RECORDS = 4000;
    private static final int MOST_BATCHES = 400;
    private static final int MOST_IN_DRAFT = 100;
    private static final int MOST_DROPPED = 400;
    private static final int MOST_KEY_BYTES = 8;
    private static final int BITS_OF_A_BYTE = 8;

    private static final int SEGMENT_ROOM = 1000;
    private static final int BATCH_BYTES = 61;
    private static final int RECORD_BYTES = 8;
    private static final int VALUE_BYTES = 8;

    private static final int KNOWN_OF_A_PRODUCER = 2;
    private static final int GONE_IS_TOLD_FOR = 1000;

    private final Batch[] batches = new Batch[MOST_BATCHES];
    private int batchCount = 0;
    private int recordCount = 0;
    private int nextOffset = 0;

    /** Where the batch that comes next lies: its last segment is the open one. */
    private final Packing packing = new Packing();

    private final Entry[] draft = new Entry[MOST_IN_DRAFT];
    private int draftCount = 0;

    /** An empty log, an empty draft. */
    public LogCleaner() {
    }

    /** A record comes into the draft: how many are there. */
    public int record(long key, int keyBytes, boolean hasValue, long value, int time)
            throws IllegalArgumentException, IllegalStateException {
        if (keyBytes < NONE || keyBytes > MOST_KEY_BYTES) {
            throw new IllegalArgumentException("keyBytes are not -1 .. 8");
        }
        if (time < 0) {
            throw new IllegalArgumentException("time is below 0");
        }
        if (draftCount >= MOST_IN_DRAFT) {
            throw new IllegalStateException("the draft has 100 records");
        }
        if (recordCount + draftCount >= MOST_RECORDS) {
            throw new IllegalStateException("the log and the draft have 4000 records");
        }
        long keptKey = lowestBytes(key, keyBytes);
        long keptValue = hasValue ? value : 0;
        draft[draftCount] = new Entry(keptKey, keyBytes, hasValue, keptValue, time);
        draftCount++;
        return draftCount;
    }

    /** The draft becomes a batch of a producer, behind the log, and is empty then: its base. */
    public int close(int producer) throws IllegalArgumentException, IllegalStateException {
        if (producer < NONE) {
            throw new IllegalArgumentException("the producer is below -1");
        }
        if (draftCount == 0) {
            throw new IllegalStateException("the draft is empty");
        }
        if (batchCount >= MOST_BATCHES) {
            throw new IllegalStateException("there are 400 batches");
        }
        Batch added = new Batch(nextOffset, producer, draftCount);
        batches[batchCount] = added;
        batchCount++;
        moveDraftInto(added);
        added.segment = packing.place(added.sizeInBytes());
        return added.base;
    }

    /** Cleans at a time: how many records went. */
    public int clean(int time) throws IllegalArgumentException {
        if (time < 0) {
            throw new IllegalArgumentException("time is below 0");
        }
        int recordsWent = removeGoneRecords(time - GONE_IS_TOLD_FOR);
        int batchesWent = removeEmptiedBatches();
        if (recordsWent > 0 || batchesWent > 0) {
            packClosedSegments();
        }
        return recordsWent;
    }

    /** The first n segments go, but not the open one: how many records went. */
    public int drop(int n) throws IllegalArgumentException {
        if (n < 0 || n > MOST_DROPPED) {
            throw new IllegalArgumentException("n is not 0 .. 400");
        }
        int closedSegments = Math.max(packing.lastSegment, 0);
        return removeFirstSegments(Math.min(n, closedSegments));
    }

    /**
     * How many there are: what = 0 records, 1 batches, 2 segments, 3 records in the draft, 4 the
     * next offset.
     */
    public int count(int what) throws IllegalArgumentException {
        switch (what) {
            case 0:
                return recordCount;
            case 1:
                return batchCount;
            case 2:
                return packing.lastSegment + 1;
            case 3:
                return draftCount;
            case 4:
                return nextOffset;
            default:
                throw new IllegalArgumentException("what is not 0 .. 4");
        }
    }

    /**
     * Of batch b: what = 0 its base, 1 how many records it has, 2 its producer, 3 its size, 4 which
     * segment it is in, 5 whether the log knows it.
     */
    public int batch(int b, int what) throws IllegalArgumentException {
        if (b < 0 || b >= batchCount) {
            throw new IllegalArgumentException("there is no such batch");
        }
        Batch asked = batches[b];
        switch (what) {
            case 0:
                return asked.base;
            case 1:
                return asked.recordCount;
            case 2:
                return asked.producer;
            case 3:
                return asked.sizeInBytes();
            case 4:
                return asked.segment;
            case 5:
                return isKnown(b) ? 1 : 0;
            default:
                throw new IllegalArgumentException("what is not 0 .. 5");
        }
    }

    /**
     * Of record r of the log: what = 0 its offset, 1 how many bytes its key has, 2 the key as a
     * number, 3 its value, 4 whether it has one, 5 its time.
     */
    public long told(int r, int what) throws IllegalArgumentException {
        Entry asked = entryAt(r);
        if (asked == null) {
            throw new IllegalArgumentException("there is no such record");
        }
        switch (what) {
            case 0:
                return asked.offset;
            case 1:
                return asked.keyBytes;
            case 2:
                return asked.key;
            case 3:
                return asked.value;
            case 4:
                return asked.hasValue ? 1 : 0;
            case 5:
                return asked.time;
            default:
                throw new IllegalArgumentException("what is not 0 .. 5");
        }
    }

    /** The offset of the latest record in the log with a key; NONE without one. */
    public int latest(long key, int keyBytes) throws IllegalArgumentException {
        if (keyBytes < 0 || keyBytes > MOST_KEY_BYTES) {
            throw new IllegalArgumentException("keyBytes are not 0 .. 8");
        }
        Entry found = latestWithKey(lowestBytes(key, keyBytes), keyBytes);
        return found == null ? NONE : found.offset;
    }

    private static long lowestBytes(long key, int keyBytes) {
        if (keyBytes <= 0) {
            return 0;
        }
        // A shift by all 64 bits would be one by none, so a whole key is not masked.
        if (keyBytes >= MOST_KEY_BYTES) {
            return key;
        }
        return key & ((1L << (keyBytes * BITS_OF_A_BYTE)) - 1);
    }

    private void moveDraftInto(Batch added) {
        for (int i = 0; i < draftCount; i++) {
            Entry entry = draft[i];
            markSuperseded(entry);
            entry.offset = nextOffset;
            nextOffset++;
            added.append(entry);
            draft[i] = null;
        }
        recordCount += draftCount;
        draftCount = 0;
    }

    /**
     * Marks here, once, what cleaning would else search for each time. A mark stays true: dropping
     * takes the earlier record first, and a cleaning that takes the later one takes all marked
     * ones before it, too, as they lie in closed segments then.
     */
    private void markSuperseded(Entry later) {
        if (!later.hasKey()) {
            return;
        }
        Entry earlier = latestWithKey(later.key, later.keyBytes);
        if (earlier != null) {
            earlier.superseded = true;
        }
    }

    private Entry latestWithKey(long key, int keyBytes) {
        for (int b = batchCount - 1; b >= 0; b--) {
            Entry found = batches[b].latestWithKey(key, keyBytes);
            if (found != null) {
                return found;
            }
        }
        return null;
    }

    private Entry entryAt(int r) {
        if (r < 0) {
            return null;
        }
        int rest = r;
        for (int b = 0; b < batchCount; b++) {
            Batch each = batches[b];
            if (rest < each.recordCount) {
                return each.entries[rest];
            }
            rest -= each.recordCount;
        }
        return null;
    }

    private boolean isClosed(Batch asked) {
        return asked.segment < packing.lastSegment;
    }

    private boolean isKnown(int b) {
        int producer = batches[b].producer;
        if (producer == NONE) {
            return false;
        }
        int laterOnes = 0;
        for (int later = b + 1; later < batchCount; later++) {
            if (batches[later].producer == producer) {
                laterOnes++;
            }
        }
        return laterOnes < KNOWN_OF_A_PRODUCER;
    }

    private int removeGoneRecords(int lastGoneTime) {
        int went = 0;
        for (int b = 0; b < batchCount; b++) {
            if (isClosed(batches[b])) {
                went += batches[b].removeGone(lastGoneTime);
            }
        }
        recordCount -= went;
        return went;
    }

    private int removeEmptiedBatches() {
        int before = batchCount;
        int kept = 0;
        for (int b = 0; b < before; b++) {
            Batch each = batches[b];
            boolean goes = isClosed(each) && each.recordCount == 0 && !isKnown(b);
            if (!goes) {
                batches[kept] = each;
                kept++;
            }
        }
        keepFirstBatches(kept);
        return before - kept;
    }

    private int removeFirstSegments(int segments) {
        int went = 0;
        int kept = 0;
        for (int b = 0; b < batchCount; b++) {
            Batch each = batches[b];
            if (each.segment < segments) {
                went += each.recordCount;
            } else {
                each.segment -= segments;
                batches[kept] = each;
                kept++;
            }
        }
        keepFirstBatches(kept);
        packing.lastSegment -= segments;
        recordCount -= went;
        return went;
    }

    private void keepFirstBatches(int kept) {
        for (int b = kept; b < batchCount; b++) {
            batches[b] = null;
        }
        batchCount = kept;
    }

    private void packClosedSegments() {
        Packing anew = new Packing();
        int b = 0;
        while (b < batchCount && isClosed(batches[b])) {
            batches[b].segment = anew.place(batches[b].sizeInBytes());
            b++;
        }
        int open = anew.lastSegment + 1;
        while (b < batchCount) {
            batches[b].segment = open;
            b++;
        }
        packing.lastSegment = open;
    }

    /** A record, in the draft or in the log. */
    private static final class Entry {
        final long key;
        final int keyBytes;
        final boolean hasValue;
        final long value;
        final int time;
        int offset = NONE;
        /** Whether a later record in the log has the same key. */
        boolean superseded = false;

        Entry(long key, int keyBytes, boolean hasValue, long value, int time) {
            this.key = key;
            this.keyBytes = keyBytes;
            this.hasValue = hasValue;
            this.value = value;
            this.time = time;
        }

        boolean hasKey() {
            return keyBytes != NONE;
        }

        boolean goes(int lastGoneTime) {
            return superseded || (hasKey() && !hasValue && time <= lastGoneTime);
        }

        int sizeInBytes() {
            return RECORD_BYTES + (hasKey() ? keyBytes : 0) + (hasValue ? VALUE_BYTES : 0);
        }
    }

    /** A batch and those of its records that are left. */
    private static final class Batch {
        final int base;
        final int producer;
        final Entry[] entries;
        int recordCount = 0;
        int segment = NONE;

        Batch(int base, int producer, int room) {
            this.base = base;
            this.producer = producer;
            this.entries = new Entry[Math.max(room, 0)];
        }

        void append(Entry entry) {
            if (recordCount < entries.length) {
                entries[recordCount] = entry;
                recordCount++;
            }
        }

        int sizeInBytes() {
            int size = BATCH_BYTES;
            for (int i = 0; i < recordCount; i++) {
                size += entries[i].sizeInBytes();
            }
            return size;
        }

        Entry latestWithKey(long key, int keyBytes) {
            for (int i = recordCount - 1; i >= 0; i--) {
                Entry each = entries[i];
                if (each.key == key && each.keyBytes == keyBytes) {
                    return each;
                }
            }
            return null;
        }

        int removeGone(int lastGoneTime) {
            int before = recordCount;
            int kept = 0;
            for (int i = 0; i < before; i++) {
                Entry each = entries[i];
                if (!each.goes(lastGoneTime)) {
                    entries[kept] = each;
                    kept++;
                }
            }
            for (int i = kept; i < before; i++) {
                entries[i] = null;
            }
            recordCount = kept;
            return before - kept;
        }
    }

    /** Lays batches into segments, one behind the other. */
    private static final class Packing {
        int lastSegment = NONE;
        private int lastFilled = 0;

        int place(int size) {
            if (lastSegment == NONE || lastFilled + size > SEGMENT_ROOM) {
                lastSegment++;
                lastFilled = 0;
            }
            lastFilled += size;
            return lastSegment;
        }
    }
}
