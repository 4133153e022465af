/** Compares answers with those that are due, and ends a test with exit code 1 if one is wrong. */
final class Check {
    interface Asked {
        long answer();
    }

    interface Done {
        void call();
    }

    private final String test;
    private int looked = 0;
    private int wrong = 0;
    private String sentence = "";
    private int sentences = 0;
    private int lookedBefore = 0;

    Check(String test) {
        this.test = test;
    }

    /** A part of a test: if it can't go on, that is a wrong answer, and the parts behind it are run all the same. */
    void run(Done part) {
        String end = outcomeOf(part);
        if (!end.equals("done")) {
            wrong++;
            System.out.println(test + ": " + sentence + "ended with " + end);
        }
    }

    /** The answers from now on belong to this sentence of the document; a bound has two sides, so they are two or more. */
    void sentence(String words) {
        endSentence();
        sentence = words + ": ";
        sentences++;
        lookedBefore = looked;
    }

    private void endSentence() {
        if (sentences > 0 && looked < lookedBefore + 2) {
            wrong++;
            System.out.println(test + ": " + sentence + "has no two answers");
        }
    }

    void is(String what, long due, Asked asked) {
        same(what, String.valueOf(due), outcome(asked));
    }

    void holds(String what, boolean due) {
        same(what, "true", String.valueOf(due));
    }

    /** The members of the panel with this rank, in their order, and no more of them. */
    void panelIs(PanelOffice x, long rank, int... members) {
        for (int i = 0; i < members.length; i++) {
            int place = i;
            is("panel(" + rank + ", " + i + ")", members[i], () -> x.panel(rank, place));
        }
        argument("panel(" + rank + ", " + members.length + ")", () -> x.panel(rank, members.length));
    }

    /** The members of the panel drawn, in their order, and no more of them. */
    void membersAre(PanelOffice x, int... members) {
        for (int i = 0; i < members.length; i++) {
            int place = i;
            is("member(" + i + ")", members[i], () -> x.member(place));
        }
        argument("member(" + members.length + ")", () -> x.member(members.length));
    }

    /** All candidates, in their order. */
    void candidatesAre(PanelOffice x, int... candidates) {
        for (int i = 0; i < candidates.length; i++) {
            int at = i;
            is("candidate(" + i + ")", candidates[i], () -> x.candidate(at));
        }
        is("candidate(" + candidates.length + ")", -1, () -> x.candidate(candidates.length));
    }

    /** All blocked quotas, in their order. */
    void blockedAre(PanelOffice x, int... quotas) {
        for (int i = 0; i < quotas.length; i++) {
            int at = i;
            is("blocked(" + i + ")", quotas[i], () -> x.blocked(at));
        }
        is("blocked(" + quotas.length + ")", -1, () -> x.blocked(quotas.length));
    }

    void works(String what, Done done) {
        same(what, "done", outcomeOf(done));
    }

    void argument(String what, Done done) {
        same(what, "IllegalArgumentException", outcomeOf(done));
    }

    void state(String what, Done done) {
        same(what, "IllegalStateException", outcomeOf(done));
    }

    void missing(String what, Done done) {
        same(what, "NoSuchElementException", outcomeOf(done));
    }

    void refused(String what, Done done) {
        same(what, "UnsupportedOperationException", outcomeOf(done));
    }

    void same(String what, String due, String got) {
        looked++;
        if (!due.equals(got)) {
            wrong++;
            System.out.println(test + ": " + sentence + what + " answered " + got + ", due is " + due);
        }
    }

    static String outcome(Asked asked) {
        try {
            return String.valueOf(asked.answer());
        } catch (RuntimeException e) {
            return e.getClass().getSimpleName();
        }
    }

    static String outcomeOf(Done done) {
        try {
            done.call();
            return "done";
        } catch (RuntimeException e) {
            return e.getClass().getSimpleName();
        }
    }

    void finish() {
        endSentence();
        String of = sentences == 0 ? "" : " of " + sentences + " sentences";
        System.out.println(test + ": " + looked + " answers" + of + ", " + wrong + " not as due");
        if (wrong != 0 || looked == 0) {
            System.exit(1);
        }
    }
}
