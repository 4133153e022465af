/** Each sentence of the promises 1 to 5 that names a bound or a refused call, from both its sides. */
public final class PoolBoundsTest {
    private static final Check CHECK = new Check("PoolBoundsTest");

    private interface Change {
        void of(PanelOffice x);
    }

    public static void main(String[] args) {
        CHECK.run(PoolBoundsTest::noPersons);
        CHECK.run(PoolBoundsTest::isOpen);
        CHECK.run(PoolBoundsTest::soManyValuesFromNowOn);
        CHECK.run(PoolBoundsTest::noSuchTrait);
        CHECK.run(PoolBoundsTest::noSuchNumberOfValues);
        CHECK.run(PoolBoundsTest::valueThatThereWouldBeNoneOf);
        CHECK.run(PoolBoundsTest::traitIfDrawn);
        CHECK.run(PoolBoundsTest::changesEndThrows);
        CHECK.run(PoolBoundsTest::quotasStay);
        CHECK.run(PoolBoundsTest::quotasOfNoValueHaveNoEffect);
        CHECK.run(PoolBoundsTest::personsNumber);
        CHECK.run(PoolBoundsTest::noSuchValueOfAPerson);
        CHECK.run(PoolBoundsTest::personIfDrawn);
        CHECK.run(PoolBoundsTest::thereAreForty);
        CHECK.run(PoolBoundsTest::thereWouldBeSeventeenKinds);
        CHECK.run(PoolBoundsTest::valueHasThisQuota);
        CHECK.run(PoolBoundsTest::noSuchTraitOfAQuota);
        CHECK.run(PoolBoundsTest::noSuchValueOfAQuota);
        CHECK.run(PoolBoundsTest::notInTheOrderOfAQuota);
        CHECK.run(PoolBoundsTest::quotaIfDrawn);
        CHECK.run(PoolBoundsTest::soManyMembers);
        CHECK.run(PoolBoundsTest::noSuchSize);
        CHECK.run(PoolBoundsTest::sizeIfDrawn);
        CHECK.finish();
    }

    /** The only panel of all three, each with value 1 of trait 1, is drawn. */
    private static PanelOffice drawn() {
        PanelOffice x = Offices.withCodes(new int[] {2, 3, 1}, 3, "010", "010", "010");
        x.dice(6);
        x.draw();
        return x;
    }

    private static void noPersons() {
        CHECK.sentence("Promise 1: No persons");
        PanelOffice x = new PanelOffice();
        CHECK.is("kinds", 0, () -> x.kind(-1));
        CHECK.is("panels", 0, x::count);
        CHECK.argument("person 0", () -> x.kind(0));
        CHECK.is("the first person's number", 0, () -> x.person(0, 0, 0));
        CHECK.is("person 0", 0, () -> x.kind(0));
    }

    private static void isOpen() {
        CHECK.sentence("Promise 1: OPEN");
        PanelOffice x = new PanelOffice();
        CHECK.state("no member", () -> x.member(0));
        CHECK.state("no breach", x::breach);
        CHECK.state("no one to drop out", () -> x.dropOut(0));
        CHECK.works("trait", () -> x.trait(0, 2));
        CHECK.works("person", () -> x.person(0, 0, 0));
        CHECK.works("quota", () -> x.quota(0, 0, 0, 8));
        CHECK.works("size", () -> x.size(1));
    }

    private static void soManyValuesFromNowOn() {
        CHECK.sentence("Promise 2: A trait has so many values from now on");
        for (int t = 0; t < 3; t++) {
            int trait = t;
            PanelOffice x = new PanelOffice();
            CHECK.argument("value 2 before", () -> withValue(x, trait, 2));
            x.trait(t, 3);
            CHECK.is("value 2 then", 0, () -> withValue(x, trait, 2));
            CHECK.argument("value 3 not yet", () -> withValue(x, trait, 3));
            x.trait(t, 4);
            CHECK.is("value 3 then", 1, () -> withValue(x, trait, 3));
            CHECK.argument("no value of the next trait", () -> withValue(x, (trait + 1) % 3, 1));
            CHECK.argument("no value of the last trait", () -> withValue(x, (trait + 2) % 3, 1));
        }
        PanelOffice y = new PanelOffice();
        y.trait(0, 4);
        y.trait(0, 2);
        CHECK.is("value 1 of fewer", 0, () -> y.person(1, 0, 0));
        CHECK.argument("no value 2 any more", () -> y.person(2, 0, 0));
    }

    private static int withValue(PanelOffice x, int t, int value) {
        return x.person(t == 0 ? value : 0, t == 1 ? value : 0, t == 2 ? value : 0);
    }

    private static void noSuchTrait() {
        CHECK.sentence("Promise 2: IllegalArgumentException if there is no such trait");
        PanelOffice x = new PanelOffice();
        CHECK.argument("trait(-1, 1)", () -> x.trait(-1, 1));
        CHECK.works("trait(0, 1)", () -> x.trait(0, 1));
        CHECK.works("trait(2, 1)", () -> x.trait(2, 1));
        CHECK.argument("trait(3, 1)", () -> x.trait(3, 1));
    }

    private static void noSuchNumberOfValues() {
        CHECK.sentence("Promise 2: or number");
        PanelOffice x = new PanelOffice();
        CHECK.argument("trait(1, 0)", () -> x.trait(1, 0));
        CHECK.works("trait(1, 1)", () -> x.trait(1, 1));
        CHECK.works("trait(1, 4)", () -> x.trait(1, 4));
        CHECK.argument("trait(1, 5)", () -> x.trait(1, 5));
    }

    private static void valueThatThereWouldBeNoneOf() {
        CHECK.sentence("Promise 2: or a person has a value that there would be none of");
        for (int t = 0; t < 3; t++) {
            int trait = t;
            PanelOffice x = Offices.withCodes(new int[] {4, 4, 4}, 1);
            CHECK.works("no person", () -> x.trait(trait, 1));
            x.trait(t, 4);
            withValue(x, t, 2);
            withValue(x, t, 0);
            CHECK.argument("value 2, and there would be 1", () -> x.trait(trait, 1));
            CHECK.argument("value 2, and there would be 2", () -> x.trait(trait, 2));
            CHECK.is("there are 4 still", 2, () -> withValue(x, trait, 2));
            CHECK.works("value 2, and there would be 3", () -> x.trait(trait, 3));
            CHECK.works("no person has more in the next trait", () -> x.trait((trait + 1) % 3, 1));
            CHECK.works("no person has more in the last trait", () -> x.trait((trait + 2) % 3, 1));
        }
    }

    private static void traitIfDrawn() {
        CHECK.sentence("Promise 2: IllegalStateException if DRAWN");
        PanelOffice open = Offices.small();
        open.dice(20);
        CHECK.works("open, throws begun", () -> open.trait(0, 2));
        PanelOffice x = drawn();
        CHECK.state("the number that there is", () -> x.trait(1, 3));
        CHECK.state("one more", () -> x.trait(1, 4));
        CHECK.argument("no such trait", () -> x.trait(3, 1));
        CHECK.argument("no such number", () -> x.trait(0, 5));
        CHECK.argument("a person has a value that there would be none of", () -> x.trait(1, 1));
        x.dropOut(1);
        CHECK.state("a place is empty", () -> x.trait(1, 3));
        x.reset();
        CHECK.works("open again", () -> x.trait(1, 3));
    }

    private static void changesEndThrows() {
        CHECK.sentence("Promise 2: Each call that changes the pool, its quotas or size ends throws");
        endsThrows("trait", x -> x.trait(2, 3));
        endsThrows("person", x -> x.person(0, 0, 0));
        endsThrows("quota", x -> x.quota(0, 0, 0, 2));
        endsThrows("size", x -> x.size(2));
        endsNothing("mark", x -> x.mark(3));
        endsNothing("count", PanelOffice::count);
        endsNothing("states", PanelOffice::states);
        endsNothing("chance", x -> x.chance(2));
        endsNothing("kind", x -> x.kind(2));
        endsNothing("blocked", x -> x.blocked(0));
        endsNothing("panel", x -> x.panel(26, 2));
        endsNothing("candidate", x -> x.candidate(0));
        endsNothing("a wrong trait", x -> CHECK.argument("trait(0, 1)", () -> x.trait(0, 1)));
        endsNothing("a wrong person", x -> CHECK.argument("person(2, 0, 0)", () -> x.person(2, 0, 0)));
        endsNothing("a wrong quota", x -> CHECK.argument("quota(0, 0, 2, 1)", () -> x.quota(0, 0, 2, 1)));
        endsNothing("a wrong size", x -> CHECK.argument("size(9)", () -> x.size(9)));
    }

    private static void endsThrows(String name, Change change) {
        PanelOffice begun = Offices.small();
        begun.dice(6);
        begun.roll(3);
        change.of(begun);
        CHECK.state(name + ", throws begun: no more", () -> begun.roll(2));
        PanelOffice made = Offices.small();
        made.dice(6);
        made.roll(3);
        made.roll(2);
        change.of(made);
        CHECK.missing(name + ", a number: no more", made::number);
        CHECK.state(name + ", a number: nothing to draw", made::draw);
    }

    private static void endsNothing(String name, Change change) {
        PanelOffice x = Offices.small();
        x.dice(6);
        x.roll(3);
        change.of(x);
        CHECK.is(name + ", throws begun: they go on", 1, () -> x.roll(2));
        change.of(x);
        CHECK.is(name + ", a number: it stays", 13, x::number);
        CHECK.works(name + ", a number: it can be drawn", x::draw);
    }

    private static void quotasStay() {
        CHECK.sentence("Promise 2: quotas stay, also of values that there are none of");
        for (int t = 0; t < 3; t++) {
            PanelOffice x = new PanelOffice();
            x.trait(t, 4);
            x.person(0, 0, 0);
            x.quota(t, 3, 1, 1);
            CHECK.is("value 3 has a quota", 0, x::count);
            x.trait(t, 3);
            CHECK.is("there is no value 3", 1, x::count);
            x.trait(t, 4);
            CHECK.is("value 3 has its quota again", 0, x::count);
            CHECK.blockedAre(x, 10 * t + 3);
            x.trait((t + 1) % 3, 4);
            x.person(0, 0, 0);
            CHECK.is("it stays when the pool is changed", 0, x::count);
        }
    }

    private static void quotasOfNoValueHaveNoEffect() {
        CHECK.sentence("Promise 2: those have no effect");
        PanelOffice x = Offices.byValue(1, 2);
        x.quota(0, 3, 1, 8);
        x.quota(0, 2, 0, 0);
        CHECK.is("value 3 is needed", 0, x::count);
        CHECK.blockedAre(x, 3);
        x.trait(0, 3);
        CHECK.is("value 3 is not there: panels", 2, x::count);
        CHECK.is("value 3 is not there: chance", 1, () -> x.chance(0));
        CHECK.panelIs(x, 1, 1);
        CHECK.blockedAre(x);
        x.quota(0, 0, 2, 8);
        CHECK.is("another quota blocks", 0, x::count);
        CHECK.blockedAre(x, 0);
        x.quota(0, 0, 1, 8);
        Offices.drawWith(x, 2, 1);
        CHECK.is("value 3 is not there: breach", 0, x::breach);
        x.dropOut(0);
        CHECK.is("value 0 is, and its quota has effect", 1, x::breach);
        CHECK.candidatesAre(x, 1);
    }

    private static void personsNumber() {
        CHECK.sentence("Promise 3: A person with these values: its number");
        PanelOffice x = Offices.withCodes(new int[] {2, 1, 1}, 1);
        CHECK.is("the first", 0, () -> x.person(1, 0, 0));
        CHECK.is("the second, of a kind before it", 1, () -> x.person(0, 0, 0));
        CHECK.argument("no person", () -> x.person(2, 0, 0));
        CHECK.is("the third, after a refused one", 2, () -> x.person(1, 0, 0));
    }

    private static void noSuchValueOfAPerson() {
        CHECK.sentence("Promise 3: IllegalArgumentException if there is no such value");
        PanelOffice x = Offices.withCodes(new int[] {2, 3, 4}, 1);
        int[] values = {2, 3, 4};
        for (int t = 0; t < 3; t++) {
            int trait = t;
            CHECK.argument("-1 of trait " + t, () -> withValue(x, trait, -1));
            CHECK.works("0 of trait " + t, () -> withValue(x, trait, 0));
            CHECK.works("the last of trait " + t, () -> withValue(x, trait, values[trait] - 1));
            CHECK.argument("one behind it of trait " + t, () -> withValue(x, trait, values[trait]));
            CHECK.argument("far behind it of trait " + t, () -> withValue(x, trait, Integer.MAX_VALUE));
        }
        PanelOffice full = Offices.alike(40, 1);
        CHECK.argument("no such value, and there are 40", () -> full.person(0, 0, 1));
        PanelOffice kinds = Offices.sixteenKinds();
        CHECK.argument("no such value, and 16 kinds", () -> kinds.person(0, 0, 2));
    }

    private static void personIfDrawn() {
        CHECK.sentence("Promise 3: IllegalStateException if DRAWN");
        PanelOffice open = Offices.alike(2, 2);
        open.dice(2);
        CHECK.is("open, with a number", 2, () -> open.person(0, 0, 0));
        PanelOffice x = drawn();
        CHECK.state("a kind that there is", () -> x.person(0, 1, 0));
        CHECK.state("a new kind", () -> x.person(1, 2, 0));
        CHECK.argument("no such value", () -> x.person(2, 0, 0));
        x.dropOut(1);
        CHECK.state("a place is empty", () -> x.person(0, 1, 0));
        CHECK.argument("no person came", () -> x.kind(3));
        x.reset();
        CHECK.is("open again", 0, () -> x.person(0, 0, 0));
    }

    private static void thereAreForty() {
        CHECK.sentence("Promise 3: there are 40");
        PanelOffice x = Offices.alike(38, 1);
        CHECK.is("there are 38", 38, () -> x.person(0, 0, 0));
        CHECK.is("there are 39", 39, () -> x.person(0, 0, 0));
        CHECK.state("there are 40", () -> x.person(0, 0, 0));
        CHECK.is("panels of one", 40, x::count);
        x.trait(0, 2);
        CHECK.state("there are 40, and it would be a new kind", () -> x.person(1, 0, 0));
        CHECK.is("one kind", 1, () -> x.kind(-1));
    }

    private static void thereWouldBeSeventeenKinds() {
        CHECK.sentence("Promise 3: or there would be 17 kinds");
        PanelOffice x = Offices.withCodes(new int[] {4, 4, 2}, 1);
        for (int n = 0; n < 15; n++) {
            x.person(n / 4, n % 4, 0);
        }
        CHECK.is("a sixteenth kind", 15, () -> x.person(3, 3, 0));
        CHECK.state("a seventeenth kind", () -> x.person(3, 3, 1));
        CHECK.is("a kind that there is", 16, () -> x.person(1, 1, 0));
        CHECK.state("a seventeenth kind again", () -> x.person(0, 0, 1));
        CHECK.is("panels of one", 17, x::count);
        CHECK.is("kinds", 16, () -> x.kind(-1));
    }

    private static void valueHasThisQuota() {
        CHECK.sentence("Promise 4: A value has this quota");
        PanelOffice x = Offices.byValue(2, 3, 3);
        CHECK.is("before", 15, x::count);
        x.quota(0, 1, 1, 1);
        CHECK.is("just one", 9, x::count);
        x.quota(0, 1, 0, 0);
        CHECK.is("the last one said is in force", 3, x::count);
        x.quota(0, 2, 0, 0);
        CHECK.is("a value that no one has", 3, x::count);
        x.quota(0, 1, 0, 8);
        CHECK.is("as before", 15, x::count);
    }

    private static void noSuchTraitOfAQuota() {
        CHECK.sentence("Promise 4: IllegalArgumentException if there is no such trait");
        PanelOffice x = Offices.withCodes(new int[] {4, 4, 4}, 1);
        CHECK.argument("trait -1", () -> x.quota(-1, 0, 0, 8));
        CHECK.argument("trait -1, value 4", () -> x.quota(-1, 4, 0, 8));
        CHECK.works("trait 0", () -> x.quota(0, 0, 0, 8));
        CHECK.works("trait 2", () -> x.quota(2, 0, 0, 8));
        CHECK.argument("trait 3", () -> x.quota(3, 0, 0, 8));
        CHECK.argument("trait 3, value -4", () -> x.quota(3, -4, 0, 8));
    }

    private static void noSuchValueOfAQuota() {
        CHECK.sentence("Promise 4: or value (as it has now)");
        PanelOffice x = new PanelOffice();
        for (int t = 0; t < 3; t++) {
            int trait = t;
            x.trait(t, 3);
            CHECK.argument("3 values: -1", () -> x.quota(trait, -1, 0, 8));
            CHECK.works("3 values: 0", () -> x.quota(trait, 0, 0, 8));
            CHECK.works("3 values: 2", () -> x.quota(trait, 2, 0, 8));
            CHECK.argument("3 values: 3", () -> x.quota(trait, 3, 0, 8));
            x.trait(t, 2);
            CHECK.works("2 values: 1", () -> x.quota(trait, 1, 0, 8));
            CHECK.argument("2 values: 2", () -> x.quota(trait, 2, 0, 8));
            x.trait(t, 4);
            CHECK.works("4 values: 3", () -> x.quota(trait, 3, 0, 8));
            CHECK.argument("4 values: 4", () -> x.quota(trait, 4, 0, 8));
        }
    }

    private static void notInTheOrderOfAQuota() {
        CHECK.sentence("Promise 4: or not 0 <= least <= most <= 8");
        PanelOffice x = Offices.alike(8, 8);
        for (int least = -2; least <= 10; least++) {
            for (int most = -2; most <= 10; most++) {
                int low = least;
                int high = most;
                String what = "least " + low + ", most " + high;
                if (least == -2 || least == -1 || most < least || most == 9 || most == 10) {
                    CHECK.argument(what, () -> x.quota(0, 0, low, high));
                } else {
                    CHECK.works(what, () -> x.quota(0, 0, low, high));
                    CHECK.is(what + ": the panel of 8", most == 8 ? 1 : 0, x::count);
                }
            }
        }
        CHECK.argument("the lowest of all", () -> x.quota(0, 0, Integer.MIN_VALUE, 8));
        CHECK.argument("the highest of all", () -> x.quota(0, 0, 0, Integer.MAX_VALUE));
        CHECK.argument("both", () -> x.quota(0, 0, Integer.MIN_VALUE, Integer.MAX_VALUE));
    }

    private static void quotaIfDrawn() {
        CHECK.sentence("Promise 4: IllegalStateException if DRAWN");
        PanelOffice open = Offices.alike(2, 2);
        open.dice(2);
        CHECK.works("open, with a number", () -> open.quota(0, 0, 0, 8));
        PanelOffice x = drawn();
        CHECK.state("as it is", () -> x.quota(0, 0, 0, 8));
        CHECK.state("another one", () -> x.quota(0, 0, 0, 0));
        CHECK.argument("no such trait", () -> x.quota(3, 0, 0, 8));
        CHECK.argument("no such value", () -> x.quota(0, 2, 0, 8));
        CHECK.argument("no such quota", () -> x.quota(0, 0, 0, 9));
        CHECK.is("no breach", 0, x::breach);
        x.dropOut(1);
        CHECK.state("a place is empty", () -> x.quota(0, 0, 0, 0));
        x.reset();
        CHECK.works("open again", () -> x.quota(0, 0, 0, 0));
    }

    private static void soManyMembers() {
        CHECK.sentence("Promise 5: Panels have so many members");
        PanelOffice x = Offices.alike(9, 1);
        long[] due = {9, 36, 84, 126, 126, 84, 36, 9};
        for (int n = 1; n <= 8; n++) {
            int size = n;
            x.size(n);
            CHECK.is("panels of " + n, due[n - 1], x::count);
            CHECK.works("the last place of " + n, () -> x.panel(0, size - 1));
            CHECK.argument("a place behind it", () -> x.panel(0, size));
        }
        x.size(2);
        CHECK.is("fewer again", 36, x::count);
    }

    private static void noSuchSize() {
        CHECK.sentence("Promise 5: IllegalArgumentException if that is not 1 .. 8");
        PanelOffice x = Offices.alike(3, 1);
        CHECK.argument("size(0)", () -> x.size(0));
        CHECK.works("size(1)", () -> x.size(1));
        CHECK.works("size(8), more than there are", () -> x.size(8));
        CHECK.argument("size(9)", () -> x.size(9));
        CHECK.is("it is 8", 0, x::count);
    }

    private static void sizeIfDrawn() {
        CHECK.sentence("Promise 5: IllegalStateException if DRAWN");
        PanelOffice open = Offices.alike(2, 2);
        open.dice(2);
        CHECK.works("open, with a number", () -> open.size(1));
        PanelOffice x = drawn();
        CHECK.state("as it is", () -> x.size(3));
        CHECK.state("another one", () -> x.size(2));
        CHECK.argument("0", () -> x.size(0));
        CHECK.argument("9", () -> x.size(9));
        CHECK.membersAre(x, 0, 1, 2);
        x.dropOut(1);
        CHECK.state("a place is empty", () -> x.size(2));
        x.reset();
        CHECK.works("open again", () -> x.size(2));
    }
}
