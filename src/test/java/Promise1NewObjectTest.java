/** Promise 1: an empty log, an empty draft. */
public final class Promise1NewObjectTest {
    public static void main(String[] args) {
        Due due = new Due();
        LogCleaner log = new LogCleaner();
        due.text("a new log", Logs.state(log), "counts 0 0 0 0 0");
        due.answer("latest of nothing", log.latest(0, 0), LogCleaner.NONE);
        due.answer("clean of nothing", log.clean(5000), 0);
        due.answer("drop of nothing", log.drop(400), 0);
        due.text("a new log, cleaned and dropped", Logs.state(log), "counts 0 0 0 0 0");
        due.illegalState("close of an empty draft", log, () -> log.close(0));
        objectsShareNothing(due);
        due.end();
    }

    private static void objectsShareNothing(Due due) {
        LogCleaner one = new LogCleaner();
        LogCleaner other = new LogCleaner();
        Logs.one(one, 1, 0);
        one.record(2, 1, true, 2, 2);
        due.text("the other log", Logs.state(other), "counts 0 0 0 0 0");
        due.answer("a record of the other", other.record(9, 1, true, 9, 9), 1);
        due.answer("a batch of the other", other.close(3), 0);
        due.answer("the one knows its own", one.latest(9, 1), LogCleaner.NONE);
    }
}
