/** Promises 1 to 5 and 9: a new object, trait, person, quota, size, kind. */
public final class PoolTest {
    private static final Check CHECK = new Check("PoolTest");

    public static void main(String[] args) {
        newObject();
        traitHasValues();
        traitRefusesWrongArguments();
        traitKeepsQuotasOfLostValues();
        personIsNumbered();
        personRefusesTooMany();
        personRefusesSeventeenKinds();
        quotaLimitsPanels();
        quotaRefusesWrongArguments();
        sizeIsOfEveryPanel();
        drawnPoolIsClosed();
        wrongArgumentsComeBeforeClosedPool();
        changesEndThrows();
        failedChangesEndNothing();
        kindsAreInTheOrderOfValues();
        kindRefusesWrongPersons();
        CHECK.finish();
    }

    private static void newObject() {
        PanelOffice x = new PanelOffice();
        CHECK.is("new: kind(-1)", 0, () -> x.kind(-1));
        CHECK.is("new: states()", 0, x::states);
        CHECK.is("new: count()", 0, x::count);
        CHECK.is("new: blocked(0)", -1, () -> x.blocked(0));
        CHECK.is("new: candidate(0)", -1, () -> x.candidate(0));
        CHECK.argument("new: chance(0)", () -> x.chance(0));
        CHECK.argument("new: panel(0, 1)", () -> x.panel(0, 1));
        CHECK.missing("new: rank()", x::rank);
        CHECK.missing("new: number()", x::number);
        CHECK.state("new: dice(2)", () -> x.dice(2));
        CHECK.state("new: roll(1)", () -> x.roll(1));
        CHECK.state("new: draw()", x::draw);
        CHECK.state("new: member(0)", () -> x.member(0));
        CHECK.state("new: breach()", x::breach);
        for (int t = 0; t < 3; t++) {
            int trait = t;
            CHECK.works("new: the only value of a trait", () -> x.quota(trait, 0, 0, 8));
            CHECK.argument("new: a second value of a trait", () -> x.quota(trait, 1, 0, 8));
        }
        for (int p = 0; p < 9; p++) {
            x.person(0, 0, 0);
        }
        CHECK.is("new: panels of one", 9, x::count);
        x.size(8);
        CHECK.is("new: quotas are 0 and 8", 9, x::count);
    }

    private static void traitHasValues() {
        PanelOffice x = new PanelOffice();
        for (int t = 0; t < 3; t++) {
            int trait = t;
            for (int n = 1; n <= 4; n++) {
                int values = n;
                CHECK.works("trait " + t + " with " + n, () -> x.trait(trait, values));
                CHECK.works("its last value", () -> x.quota(trait, values - 1, 0, 8));
                CHECK.argument("a value behind its last", () -> x.quota(trait, values, 0, 8));
            }
        }
        CHECK.is("person(3, 3, 3)", 0, () -> x.person(3, 3, 3));
        PanelOffice y = new PanelOffice();
        y.trait(1, 3);
        y.person(0, 1, 0);
        CHECK.argument("trait(1, 1) under a person's value", () -> y.trait(1, 1));
        CHECK.is("the trait is as before", 1, () -> y.person(0, 2, 0));
        CHECK.argument("trait(1, 2) under a person's value", () -> y.trait(1, 2));
        CHECK.works("trait(1, 3) just above it", () -> y.trait(1, 3));
        CHECK.works("trait(0, 1) with persons of value 0", () -> y.trait(0, 1));
    }

    private static void traitRefusesWrongArguments() {
        PanelOffice x = new PanelOffice();
        CHECK.argument("trait(-1, 2)", () -> x.trait(-1, 2));
        CHECK.argument("trait(3, 2)", () -> x.trait(3, 2));
        CHECK.argument("trait(0, 0)", () -> x.trait(0, 0));
        CHECK.argument("trait(0, -1)", () -> x.trait(0, -1));
        CHECK.argument("trait(0, 5)", () -> x.trait(0, 5));
        CHECK.argument("trait(least int, most int)", () -> x.trait(Integer.MIN_VALUE, Integer.MAX_VALUE));
    }

    private static void traitKeepsQuotasOfLostValues() {
        PanelOffice x = new PanelOffice();
        x.trait(0, 2);
        x.person(0, 0, 0);
        x.quota(0, 1, 1, 1);
        CHECK.is("no one has the value", 0, x::count);
        CHECK.is("its quota blocks", 1, () -> x.blocked(0));
        x.trait(0, 1);
        CHECK.is("a lost value's quota has no effect", 1, x::count);
        x.quota(0, 0, 2, 2);
        CHECK.is("another quota blocks", 0, () -> x.blocked(0));
        CHECK.is("a lost value's quota blocks nothing", -1, () -> x.blocked(1));
        x.quota(0, 0, 0, 8);
        x.dice(2);
        x.draw();
        CHECK.is("a lost value's quota is no breach", 0, x::breach);
        PanelOffice y = new PanelOffice();
        y.trait(2, 4);
        y.person(0, 0, 0);
        y.quota(2, 3, 1, 8);
        y.trait(2, 3);
        CHECK.is("lost", 1, y::count);
        y.trait(2, 4);
        CHECK.is("a quota comes back with its value", 0, y::count);
    }

    private static void personIsNumbered() {
        PanelOffice x = new PanelOffice();
        x.trait(0, 2);
        x.trait(1, 3);
        x.trait(2, 4);
        CHECK.is("first person", 0, () -> x.person(0, 0, 0));
        CHECK.is("second person", 1, () -> x.person(1, 2, 3));
        CHECK.argument("person(2, 0, 0)", () -> x.person(2, 0, 0));
        CHECK.argument("person(0, 3, 0)", () -> x.person(0, 3, 0));
        CHECK.argument("person(0, 0, 4)", () -> x.person(0, 0, 4));
        CHECK.argument("person(-1, 0, 0)", () -> x.person(-1, 0, 0));
        CHECK.argument("person(0, -1, 0)", () -> x.person(0, -1, 0));
        CHECK.argument("person(0, 0, -1)", () -> x.person(0, 0, -1));
        CHECK.is("a wrong person has no number", 2, () -> x.person(0, 2, 0));
    }

    private static void personRefusesTooMany() {
        PanelOffice x = Offices.alike(39, 1);
        CHECK.is("person 39", 39, () -> x.person(0, 0, 0));
        CHECK.state("a forty-first person", () -> x.person(0, 0, 0));
        CHECK.argument("a wrong forty-first person", () -> x.person(1, 0, 0));
        CHECK.is("still 40", 40, x::count);
    }

    private static void personRefusesSeventeenKinds() {
        PanelOffice x = Offices.sixteenKinds();
        CHECK.is("sixteen kinds", 16, () -> x.kind(-1));
        CHECK.state("a seventeenth kind", () -> x.person(0, 0, 1));
        CHECK.state("a seventeenth kind behind all", () -> x.person(3, 3, 1));
        CHECK.is("one more of a kind that there is", 16, () -> x.person(3, 3, 0));
        CHECK.is("still sixteen kinds", 16, () -> x.kind(-1));
        CHECK.is("still seventeen persons", 17, x::count);
    }

    private static void quotaLimitsPanels() {
        PanelOffice x = new PanelOffice();
        x.trait(1, 2);
        for (int p = 0; p < 6; p++) {
            x.person(0, p % 2, 0);
        }
        x.size(3);
        CHECK.is("no quota", 20, x::count);
        x.quota(1, 1, 1, 8);
        CHECK.is("at least one of value 1", 19, x::count);
        x.quota(1, 1, 0, 1);
        CHECK.is("at most one of value 1", 10, x::count);
        x.quota(1, 1, 2, 2);
        CHECK.is("just two of value 1", 9, x::count);
        x.quota(1, 1, 0, 0);
        CHECK.is("none of value 1", 1, x::count);
        x.quota(1, 1, 8, 8);
        CHECK.is("eight of value 1", 0, x::count);
        x.quota(1, 1, 0, 8);
        CHECK.is("no quota again", 20, x::count);
    }

    private static void quotaRefusesWrongArguments() {
        PanelOffice x = Offices.small();
        CHECK.argument("quota(-1, 0, 0, 8)", () -> x.quota(-1, 0, 0, 8));
        CHECK.argument("quota(3, 0, 0, 8)", () -> x.quota(3, 0, 0, 8));
        CHECK.argument("quota(0, -1, 0, 8)", () -> x.quota(0, -1, 0, 8));
        CHECK.argument("quota(0, 2, 0, 8)", () -> x.quota(0, 2, 0, 8));
        CHECK.argument("quota(1, 3, 0, 8)", () -> x.quota(1, 3, 0, 8));
        CHECK.argument("quota(0, 0, -1, 8)", () -> x.quota(0, 0, -1, 8));
        CHECK.argument("quota(0, 0, 3, 2)", () -> x.quota(0, 0, 3, 2));
        CHECK.argument("quota(0, 0, 0, 9)", () -> x.quota(0, 0, 0, 9));
        CHECK.argument("quota(0, 0, 0, -1)", () -> x.quota(0, 0, 0, -1));
        CHECK.is("nothing has changed", 27, x::count);
    }

    private static void sizeIsOfEveryPanel() {
        PanelOffice x = Offices.alike(8, 1);
        long[] due = {8, 28, 56, 70, 56, 28, 8, 1};
        for (int n = 1; n <= 8; n++) {
            int size = n;
            CHECK.works("size(" + n + ")", () -> x.size(size));
            CHECK.is("panels of " + n, due[n - 1], x::count);
        }
        CHECK.argument("size(0)", () -> x.size(0));
        CHECK.argument("size(-1)", () -> x.size(-1));
        CHECK.argument("size(9)", () -> x.size(9));
        CHECK.is("still panels of 8", 1, x::count);
    }

    private static PanelOffice drawn() {
        PanelOffice x = Offices.small();
        Offices.drawWith(x, 6, 3, 2);
        return x;
    }

    private static void drawnPoolIsClosed() {
        PanelOffice x = drawn();
        CHECK.state("trait when drawn", () -> x.trait(0, 2));
        CHECK.state("person when drawn", () -> x.person(0, 0, 0));
        CHECK.state("quota when drawn", () -> x.quota(0, 0, 0, 8));
        CHECK.state("size when drawn", () -> x.size(3));
        CHECK.is("the pool is as before", 27, x::count);
        CHECK.is("its states too", 60, x::states);
        x.dropOut(x.member(0));
        CHECK.state("trait with an empty place", () -> x.trait(0, 2));
        CHECK.state("size with an empty place", () -> x.size(2));
    }

    private static void wrongArgumentsComeBeforeClosedPool() {
        PanelOffice x = drawn();
        CHECK.argument("wrong trait when drawn", () -> x.trait(3, 2));
        CHECK.argument("trait under a person's value when drawn", () -> x.trait(0, 1));
        CHECK.argument("wrong person when drawn", () -> x.person(2, 0, 0));
        CHECK.argument("wrong quota when drawn", () -> x.quota(0, 0, 2, 1));
        CHECK.argument("wrong size when drawn", () -> x.size(9));
    }

    private static void changesEndThrows() {
        endsThrows("trait", x -> x.trait(2, 3));
        endsThrows("person", x -> x.person(0, 0, 0));
        endsThrows("quota", x -> x.quota(0, 0, 0, 2));
        endsThrows("size", x -> x.size(2));
    }

    private interface Change {
        void of(PanelOffice x);
    }

    private static void endsThrows(String name, Change change) {
        PanelOffice begun = Offices.small();
        begun.dice(6);
        begun.roll(3);
        change.of(begun);
        CHECK.state(name + " ends throws", () -> begun.roll(1));
        PanelOffice made = Offices.small();
        made.dice(6);
        made.roll(3);
        made.roll(2);
        change.of(made);
        CHECK.missing(name + " takes the number", made::number);
        CHECK.state(name + " leaves nothing to draw", made::draw);
    }

    private static void failedChangesEndNothing() {
        PanelOffice x = Offices.small();
        x.dice(6);
        x.roll(3);
        CHECK.argument("wrong trait", () -> x.trait(0, 1));
        CHECK.argument("wrong person", () -> x.person(2, 0, 0));
        CHECK.argument("wrong quota", () -> x.quota(0, 2, 0, 8));
        CHECK.argument("wrong size", () -> x.size(0));
        CHECK.is("throws go on", 1, () -> x.roll(2));
        CHECK.argument("wrong size", () -> x.size(0));
        CHECK.is("the number stays", 13, x::number);
        PanelOffice full = Offices.sixteenKinds();
        full.dice(4);
        CHECK.state("a seventeenth kind", () -> full.person(0, 0, 1));
        CHECK.is("throws go on", 0, () -> full.roll(1));
    }

    private static void kindsAreInTheOrderOfValues() {
        PanelOffice x = new PanelOffice();
        x.trait(0, 4);
        x.trait(1, 4);
        x.trait(2, 4);
        x.person(1, 0, 0);
        CHECK.is("the only kind", 0, () -> x.kind(0));
        x.person(0, 3, 3);
        CHECK.is("trait 0 is first", 1, () -> x.kind(0));
        CHECK.is("trait 0 is first", 0, () -> x.kind(1));
        x.person(0, 3, 2);
        x.person(0, 2, 3);
        x.person(1, 0, 0);
        int[] due = {3, 2, 1, 0, 3};
        for (int p = 0; p < due.length; p++) {
            int person = p;
            CHECK.is("kind(" + p + ")", due[p], () -> x.kind(person));
        }
        CHECK.is("four kinds", 4, () -> x.kind(-1));
        PanelOffice all = Offices.sixteenKinds();
        for (int p = 0; p < 16; p++) {
            int person = p;
            CHECK.is("kind(" + p + ") of sixteen", 15 - p, () -> all.kind(person));
        }
    }

    private static void kindRefusesWrongPersons() {
        PanelOffice x = Offices.small();
        CHECK.argument("kind(-2)", () -> x.kind(-2));
        CHECK.argument("kind(7)", () -> x.kind(7));
        CHECK.argument("kind(most int)", () -> x.kind(Integer.MAX_VALUE));
        CHECK.is("kind(6)", 0, () -> x.kind(6));
    }
}
