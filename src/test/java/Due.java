/** Compares answers with those that are due, and ends the test with exit code 1 if one differs. */
final class Due {
    /** A call of the class under test. */
    interface Call {
        long answer();
    }

    private int looked = 0;
    private int wrong = 0;

    void answer(String what, long got, long want) {
        looked++;
        if (got != want) {
            report(what + " answered " + got + ", due is " + want);
        }
    }

    void text(String what, String got, String want) {
        looked++;
        if (!got.equals(want)) {
            report(what + " is\n  " + got + "\ndue is\n  " + want);
        }
    }

    void illegalArgument(String what, LogCleaner log, Call call) {
        refused(what, log, call, IllegalArgumentException.class);
    }

    void illegalState(String what, LogCleaner log, Call call) {
        refused(what, log, call, IllegalStateException.class);
    }

    /** The call throws exactly that exception, and what can be seen of the log stays as it was. */
    private void refused(String what, LogCleaner log, Call call, Class<?> due) {
        looked++;
        String before = Logs.state(log);
        String outcome = outcome(call);
        if (!outcome.equals("throws " + due.getName())) {
            report(what + " " + outcome + ", due is that it throws " + due.getName());
        }
        text("the state after the refused " + what, Logs.state(log), before);
    }

    static String outcome(Call call) {
        try {
            return "answers " + call.answer();
        } catch (RuntimeException e) {
            return "throws " + e.getClass().getName();
        }
    }

    private void report(String fault) {
        wrong++;
        System.out.println(fault);
    }

    void end() {
        System.out.println(looked + " looked at, " + wrong + " wrong");
        if (wrong != 0 || looked == 0) {
            System.exit(1);
        }
    }
}
