/** Compares answers with those that are due, and ends a test with exit code 1 if one is wrong. */
final class Check {
    interface Asked {
        long answer();
    }

    interface Done {
        void call();
    }

    private final String test;
    private int looked = 0;
    private int wrong = 0;

    Check(String test) {
        this.test = test;
    }

    void is(String what, long due, Asked asked) {
        same(what, String.valueOf(due), outcome(asked));
    }

    void holds(String what, boolean due) {
        same(what, "true", String.valueOf(due));
    }

    void works(String what, Done done) {
        same(what, "done", outcomeOf(done));
    }

    void argument(String what, Done done) {
        same(what, "IllegalArgumentException", outcomeOf(done));
    }

    void state(String what, Done done) {
        same(what, "IllegalStateException", outcomeOf(done));
    }

    void missing(String what, Done done) {
        same(what, "NoSuchElementException", outcomeOf(done));
    }

    void refused(String what, Done done) {
        same(what, "UnsupportedOperationException", outcomeOf(done));
    }

    void same(String what, String due, String got) {
        looked++;
        if (!due.equals(got)) {
            wrong++;
            System.out.println(test + ": " + what + " answered " + got + ", due is " + due);
        }
    }

    static String outcome(Asked asked) {
        try {
            return String.valueOf(asked.answer());
        } catch (RuntimeException e) {
            return e.getClass().getSimpleName();
        }
    }

    static String outcomeOf(Done done) {
        try {
            done.call();
            return "done";
        } catch (RuntimeException e) {
            return e.getClass().getSimpleName();
        }
    }

    void finish() {
        System.out.println(test + ": " + looked + " answers, " + wrong + " not as due");
        if (wrong != 0 || looked == 0) {
            System.exit(1);
        }
    }
}
