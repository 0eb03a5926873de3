import java.util.ArrayList;
import java.util.List;

/** The document's words once more, as plainly as lists can say them, to compare runs with. */
final class LogModel {
    private static final class Rec {
        int offset;
        List<Byte> key;
        Long value;
        int time;
    }

    private static final class Bat {
        int base;
        int producer;
        List<Rec> records = new ArrayList<>();
    }

    private List<List<Bat>> segments = new ArrayList<>();
    private List<Rec> draft = new ArrayList<>();
    private int next = 0;

    private static List<Byte> bytes(long key, int keyBytes) {
        if (keyBytes < 0) {
            return null;
        }
        List<Byte> row = new ArrayList<>();
        for (int i = keyBytes - 1; i >= 0; i--) {
            row.add((byte) (key >> (8 * i)));
        }
        return row;
    }

    private static long number(List<Byte> key) {
        long number = 0;
        if (key != null) {
            for (byte b : key) {
                number = number * 256 + (b & 255);
            }
        }
        return number;
    }

    private static int size(Bat batch) {
        int size = 61;
        for (Rec r : batch.records) {
            size += 8 + (r.key == null ? 0 : r.key.size()) + (r.value == null ? 0 : 8);
        }
        return size;
    }

    private List<Bat> batches() {
        List<Bat> all = new ArrayList<>();
        segments.forEach(all::addAll);
        return all;
    }

    private List<Rec> records() {
        List<Rec> all = new ArrayList<>();
        batches().forEach(b -> all.addAll(b.records));
        return all;
    }

    private static void lay(Bat batch, List<List<Bat>> into) {
        if (!into.isEmpty()) {
            List<Bat> last = into.get(into.size() - 1);
            if (last.stream().mapToInt(LogModel::size).sum() + size(batch) <= 1000) {
                last.add(batch);
                return;
            }
        }
        List<Bat> fresh = new ArrayList<>();
        fresh.add(batch);
        into.add(fresh);
    }

    private boolean knows(Bat asked) {
        if (asked.producer == -1) {
            return false;
        }
        List<Bat> its = batches();
        its.removeIf(b -> b.producer != asked.producer);
        return its.indexOf(asked) >= its.size() - 2;
    }

    int record(long key, int keyBytes, boolean hasValue, long value, int time) {
        if (keyBytes < -1 || keyBytes > 8 || time < 0) {
            throw new IllegalArgumentException();
        }
        if (draft.size() == 100 || draft.size() + records().size() + 1 > 4000) {
            throw new IllegalStateException();
        }
        Rec r = new Rec();
        r.key = bytes(key, keyBytes);
        r.value = hasValue ? value : null;
        r.time = time;
        draft.add(r);
        return draft.size();
    }

    int close(int producer) {
        if (producer < -1) {
            throw new IllegalArgumentException();
        }
        if (draft.isEmpty() || batches().size() == 400) {
            throw new IllegalStateException();
        }
        Bat batch = new Bat();
        batch.base = next;
        batch.producer = producer;
        for (Rec r : draft) {
            r.offset = next++;
            batch.records.add(r);
        }
        draft = new ArrayList<>();
        lay(batch, segments);
        return batch.base;
    }

    private static boolean goes(Rec r, List<Rec> log, int time) {
        if (r.key == null) {
            return false;
        }
        for (Rec other : log) {
            if (other.offset > r.offset && r.key.equals(other.key)) {
                return true;
            }
        }
        return r.value == null && r.time <= (long) time - 1000;
    }

    int clean(int time) {
        if (time < 0) {
            throw new IllegalArgumentException();
        }
        if (segments.isEmpty()) {
            return 0;
        }
        List<Rec> log = records();
        List<Rec> go = new ArrayList<>();
        List<Bat> stay = new ArrayList<>();
        boolean batchWent = false;
        for (List<Bat> closed : segments.subList(0, segments.size() - 1)) {
            for (Bat batch : closed) {
                batch.records.stream().filter(r -> goes(r, log, time)).forEach(go::add);
                if (go.containsAll(batch.records) && !knows(batch)) {
                    batchWent = true;
                } else {
                    stay.add(batch);
                }
            }
        }
        if (!batchWent && go.isEmpty()) {
            return 0;
        }
        List<Bat> open = segments.get(segments.size() - 1);
        segments = new ArrayList<>();
        for (Bat batch : stay) {
            batch.records.removeAll(go);
            lay(batch, segments);
        }
        segments.add(open);
        return go.size();
    }

    int drop(int n) {
        if (n < 0 || n > 400) {
            throw new IllegalArgumentException();
        }
        int before = records().size();
        for (int i = 0; i < n && segments.size() > 1; i++) {
            segments.remove(0);
        }
        return before - records().size();
    }

    int count(int what) {
        switch (what) {
            case 0: return records().size();
            case 1: return batches().size();
            case 2: return segments.size();
            case 3: return draft.size();
            case 4: return next;
            default: throw new IllegalArgumentException();
        }
    }

    int batch(int b, int what) {
        List<Bat> all = batches();
        if (b < 0 || b >= all.size() || what < 0 || what > 5) {
            throw new IllegalArgumentException();
        }
        Bat asked = all.get(b);
        switch (what) {
            case 0: return asked.base;
            case 1: return asked.records.size();
            case 2: return asked.producer;
            case 3: return size(asked);
            case 4: return segmentOf(asked);
            default: return knows(asked) ? 1 : 0;
        }
    }

    private int segmentOf(Bat asked) {
        for (int s = 0; s < segments.size(); s++) {
            if (segments.get(s).contains(asked)) {
                return s;
            }
        }
        return -1;
    }

    long told(int r, int what) {
        List<Rec> all = records();
        if (r < 0 || r >= all.size() || what < 0 || what > 5) {
            throw new IllegalArgumentException();
        }
        Rec asked = all.get(r);
        switch (what) {
            case 0: return asked.offset;
            case 1: return asked.key == null ? -1 : asked.key.size();
            case 2: return number(asked.key);
            case 3: return asked.value == null ? 0 : asked.value;
            case 4: return asked.value == null ? 0 : 1;
            default: return asked.time;
        }
    }

    int latest(long key, int keyBytes) {
        if (keyBytes < 0 || keyBytes > 8) {
            throw new IllegalArgumentException();
        }
        int found = -1;
        for (Rec r : records()) {
            if (bytes(key, keyBytes).equals(r.key)) {
                found = r.offset;
            }
        }
        return found;
    }
}
