import java.util.Random;

/** Promises 1 to 23: long mixed runs of calls, right and wrong ones, each answered as PlainOffice does. */
public final class AgainstPlainTest {
    private static final int RUNS = 800;
    private static final int CALLS = 512;

    private final Check check;
    private final Random random;
    private final int run;
    private final int mostPersons;
    private final int mostValues;
    private PanelOffice office = new PanelOffice();
    private PlainOffice plain = new PlainOffice();
    private int persons = 0;
    private int calls = 0;

    private AgainstPlainTest(Check check, int run) {
        this.check = check;
        this.run = run;
        random = new Random(run);
        mostPersons = 1 + random.nextInt(12);
        mostValues = 1 + random.nextInt(4);
    }

    public static void main(String[] args) {
        Check check = new Check("AgainstPlainTest");
        for (int run = 0; run < RUNS; run++) {
            new AgainstPlainTest(check, run).runAll();
        }
        check.finish();
    }

    private void runAll() {
        while (calls < CALLS) {
            if (calls == 0 || random.nextInt(20) == 0) {
                compare("reset()", () -> done(office::reset), () -> done(plain::reset));
                beginPool();
            }
            int phase = random.nextInt(10);
            for (int i = 0; i < 12; i++) {
                if (phase < 3) {
                    change();
                } else if (phase < 6) {
                    ask();
                } else {
                    lot();
                }
            }
        }
    }

    /** Without it most pools would be too poor for a panel to be drawn. */
    private void beginPool() {
        persons = 0;
        for (int t = 0; t < 3 && random.nextInt(8) != 0; t++) {
            trait(t, mostValues);
        }
        for (int n = 0; n < 40 && persons < mostPersons; n++) {
            person();
        }
        size(1 + random.nextInt(Math.max(1, Math.min(8, persons - 1))));
    }

    private int near(int bound) {
        return random.nextInt(12) == 0 ? random.nextInt(bound + 4) - 2 : random.nextInt(Math.max(1, bound));
    }

    private void change() {
        int a = near(3);
        int b = near(4);
        switch (random.nextInt(7)) {
            case 0 -> trait(a, 1 + near(mostValues));
            case 1, 2, 3 -> person();
            case 4 -> size(1 + near(random.nextBoolean() ? 3 : 8));
            default -> {
                int least = random.nextBoolean() ? 0 : near(4);
                int most = random.nextInt(3) == 0 ? 8 : least + near(4);
                compare("quota(" + a + ", " + b + ", " + least + ", " + most + ")",
                    () -> done(() -> office.quota(a, b, least, most)), () -> done(() -> plain.quota(a, b, least, most)));
            }
        }
    }

    private void trait(int t, int n) {
        compare("trait(" + t + ", " + n + ")", () -> done(() -> office.trait(t, n)), () -> done(() -> plain.trait(t, n)));
    }

    private void size(int n) {
        compare("size(" + n + ")", () -> done(() -> office.size(n)), () -> done(() -> plain.size(n)));
    }

    private void person() {
        // A pool that is full for PlainOffice gets wrong persons alone.
        int a = persons < mostPersons ? near(mostValues) : 4;
        int b = near(mostValues);
        int c = near(mostValues);
        String got = compare("person(" + a + ", " + b + ", " + c + ")", () -> office.person(a, b, c), () -> plain.person(a, b, c));
        if (Character.isDigit(got.charAt(0))) {
            persons++;
        }
    }

    private void ask() {
        int p = near(persons);
        int i = near(4);
        switch (random.nextInt(9)) {
            case 0 -> compare("count()", () -> office.count(), () -> plain.count());
            case 1 -> compare("states()", () -> office.states(), () -> plain.states());
            case 2 -> compare("chance(" + p + ")", () -> office.chance(p), () -> plain.chance(p));
            case 3 -> compare("kind(" + p + ")", () -> office.kind(p), () -> plain.kind(p));
            case 4 -> compare("blocked(" + i + ")", () -> office.blocked(i), () -> plain.blocked(i));
            case 5, 6 -> {
                long rank = random.nextBoolean() ? near(6) : near(200);
                compare("panel(" + rank + ", " + i + ")", () -> office.panel(rank, i), () -> plain.panel(rank, i));
            }
            case 7 -> mark(p);
            default -> markPanel();
        }
    }

    private void mark(int p) {
        compare("mark(" + p + ")", () -> office.mark(p) ? 1 : 0, () -> plain.mark(p) ? 1 : 0);
    }

    private void markPanel() {
        if (Character.isDigit(Check.outcome(plain::count).charAt(0)) && plain.count() > 0) {
            long rank = random.nextInt((int) plain.count());
            for (int p = 0; p < persons; p++) {
                boolean wasMarked = !plain.mark(p);
                plain.mark(p);
                if (wasMarked) {
                    mark(p);
                }
            }
            for (int i = 0; Character.isDigit(Check.outcome(memberOf(rank, i)).charAt(0)); i++) {
                mark(plain.panel(rank, i));
            }
        }
        compare("rank()", () -> office.rank(), () -> plain.rank());
    }

    private Check.Asked memberOf(long rank, int i) {
        return () -> plain.panel(rank, i);
    }

    private void lot() {
        int i = near(4);
        int p = near(persons);
        int sides = 2 + near(19);
        int side = 1 + near(random.nextBoolean() ? 2 : 20);
        switch (random.nextInt(16)) {
            case 0, 1 -> compare("dice(" + sides + ")", () -> office.dice(sides), () -> plain.dice(sides));
            case 2, 3, 4, 5, 6, 7 -> compare("roll(" + side + ")", () -> office.roll(side), () -> plain.roll(side));
            case 8 -> compare("number()", () -> office.number(), () -> plain.number());
            case 9 -> compare("draw()", () -> done(office::draw), () -> done(plain::draw));
            case 10 -> compare("member(" + i + ")", () -> office.member(i), () -> plain.member(i));
            case 11 -> {
                long who = random.nextInt(3) == 0 ? p : memberOr(p, i);
                compare("dropOut(" + who + ")", () -> done(() -> office.dropOut((int) who)), () -> done(() -> plain.dropOut((int) who)));
            }
            case 12 -> compare("candidate(" + i + ")", () -> office.candidate(i), () -> plain.candidate(i));
            case 13, 14 -> compare("replace()", () -> office.replace(), () -> plain.replace());
            default -> compare("breach()", () -> office.breach(), () -> plain.breach());
        }
    }

    private long memberOr(int other, int i) {
        String member = Check.outcome(() -> plain.member(i));
        return Character.isDigit(member.charAt(0)) ? Long.parseLong(member) : other;
    }

    private static long done(Runnable call) {
        call.run();
        return 0;
    }

    private String compare(String call, Check.Asked asked, Check.Asked due) {
        // What an object answers after its 512th call is free.
        if (calls >= CALLS) {
            return "not called";
        }
        calls++;
        String answer = Check.outcome(due);
        check.same("run " + run + ": " + call, answer, Check.outcome(asked));
        return answer;
    }
}
