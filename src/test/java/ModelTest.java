import java.util.Random;

/** Runs of 512 calls, mixed by fixed seeds: each answer and exception is that of the model. */
public final class ModelTest {
    private static final int RUNS = 600;
    private static final int CALLS = 512;

    private final Random random;
    private final LogCleaner log = new LogCleaner();
    private final LogModel model = new LogModel();
    private final int batchLength;
    private final int keys;
    private final int producers;
    private String call;

    private ModelTest(int seed) {
        random = new Random(seed);
        batchLength = 1 + random.nextInt(seed % 5 == 0 ? 110 : 9);
        keys = 1 + random.nextInt(seed % 3 == 0 ? 200 : 12);
        producers = 1 + random.nextInt(5);
    }

    public static void main(String[] args) {
        Due due = new Due();
        for (int seed = 0; seed < RUNS; seed++) {
            new ModelTest(seed).run(due, seed);
        }
        due.end();
    }

    private void run(Due due, int seed) {
        for (int n = 0; n < CALLS; n++) {
            Due.Call[] both = next();
            due.text("seed " + seed + ", call " + n + ": " + call, Due.outcome(both[0]), Due.outcome(both[1]));
        }
        due.text("seed " + seed + ", the end", Logs.state(log),
            Logs.state(model::count, model::batch, model::told));
    }

    private Due.Call[] next() {
        int kind = random.nextInt(100);
        if (kind < 55) {
            return random.nextInt(batchLength) == 0 ? close() : record();
        }
        if (kind < 62) {
            int time = random.nextInt(40) == 0 ? -1 : random.nextInt(3000);
            call = "clean(" + time + ")";
            return both(() -> log.clean(time), () -> model.clean(time));
        }
        if (kind < 64) {
            int n = random.nextInt(20) == 0 ? random.nextInt(3) * 401 - 1 : random.nextInt(3);
            call = "drop(" + n + ")";
            return both(() -> log.drop(n), () -> model.drop(n));
        }
        return question(kind);
    }

    private Due.Call[] question(int kind) {
        int what = random.nextInt(8) - 1;
        if (kind < 70) {
            call = "count(" + what + ")";
            return both(() -> log.count(what), () -> model.count(what));
        }
        if (kind < 82) {
            int b = random.nextInt(model.count(1) + 2) - 1;
            call = "batch(" + b + ", " + what + ")";
            return both(() -> log.batch(b, what), () -> model.batch(b, what));
        }
        if (kind < 94) {
            int r = random.nextInt(model.count(0) + 2) - 1;
            call = "told(" + r + ", " + what + ")";
            return both(() -> log.told(r, what), () -> model.told(r, what));
        }
        long key = key();
        int keyBytes = keyBytes();
        call = "latest(" + key + ", " + keyBytes + ")";
        return both(() -> log.latest(key, keyBytes), () -> model.latest(key, keyBytes));
    }

    private Due.Call[] record() {
        long key = key();
        int keyBytes = keyBytes();
        boolean hasValue = random.nextInt(3) != 0;
        long value = random.nextLong();
        int time = random.nextInt(50) == 0 ? -1 : random.nextInt(2000);
        call = "record(" + key + ", " + keyBytes + ", " + hasValue + ", " + value + ", " + time + ")";
        return both(() -> log.record(key, keyBytes, hasValue, value, time),
            () -> model.record(key, keyBytes, hasValue, value, time));
    }

    private Due.Call[] close() {
        int producer = random.nextInt(30) == 0 ? -2 : random.nextInt(producers + 1) - 1;
        call = "close(" + producer + ")";
        return both(() -> log.close(producer), () -> model.close(producer));
    }

    private long key() {
        long low = random.nextInt(keys);
        return random.nextInt(4) == 0 ? low | (0xABL << (8 * random.nextInt(8))) : low;
    }

    private int keyBytes() {
        return random.nextInt(3) == 0 ? random.nextInt(12) - 2 : 1 + 7 * random.nextInt(2);
    }

    private static Due.Call[] both(Due.Call one, Due.Call other) {
        return new Due.Call[] {one, other};
    }
}
