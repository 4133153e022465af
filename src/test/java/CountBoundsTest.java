/** Each sentence of the promises 6 to 10 that names a bound or a refused call, from both its sides. */
public final class CountBoundsTest {
    private static final Check CHECK = new Check("CountBoundsTest");

    public static void main(String[] args) {
        CHECK.run(CountBoundsTest::howManyPanels);
        CHECK.run(CountBoundsTest::countIsRefused);
        CHECK.run(CountBoundsTest::howManyStates);
        CHECK.run(CountBoundsTest::statesBeyondThousand);
        CHECK.run(CountBoundsTest::howManyPanelsOfAPerson);
        CHECK.run(CountBoundsTest::chanceOfNoSuchPerson);
        CHECK.run(CountBoundsTest::chanceIsRefused);
        CHECK.run(CountBoundsTest::howManyKinds);
        CHECK.run(CountBoundsTest::kindOfAPerson);
        CHECK.run(CountBoundsTest::kindOfNoSuchPerson);
        CHECK.run(CountBoundsTest::blockedAsTenTimesTrait);
        CHECK.run(CountBoundsTest::notSoManyBlocked);
        CHECK.run(CountBoundsTest::noneBlockedIfThereIsAPanel);
        CHECK.run(CountBoundsTest::blockedBelowZero);
        CHECK.run(CountBoundsTest::blockedIsRefused);
        CHECK.run(CountBoundsTest::blockedIsRefusedWithoutAQuota);
        CHECK.run(CountBoundsTest::blockedIsRefusedWithThoseLeftOut);
        CHECK.finish();
    }

    private static void howManyPanels() {
        CHECK.sentence("Promise 6: How many panels there are");
        CHECK.is("no person", 0, new PanelOffice()::count);
        CHECK.is("one person", 1, Offices.alike(1, 1)::count);
        CHECK.is("the most that there can be", 76904685, Offices.alike(40, 8)::count);
        PanelOffice x = Offices.alike(40, 8);
        x.quota(0, 0, 8, 8);
        CHECK.is("all may be in", 76904685, x::count);
        x.quota(0, 0, 0, 7);
        CHECK.is("no panel", 0, x::count);
        CHECK.is("it may be asked again", 0, x::count);
    }

    private static void countIsRefused() {
        CHECK.sentence("Promise 6: UnsupportedOperationException if counting is refused");
        CHECK.is("1000 states", 116280, Offices.thousandStates()::count);
        PanelOffice x = Offices.thousandAndOneStates();
        CHECK.refused("1001 states", x::count);
        CHECK.refused("asked again", x::count);
        x.size(1);
        CHECK.is("fewer states", 17, x::count);
    }

    private static void howManyStates() {
        CHECK.sentence("Promise 7: How many states there are");
        CHECK.is("no person", 0, new PanelOffice()::states);
        CHECK.is("one person", 2, Offices.alike(1, 1)::states);
        CHECK.is("seven persons of five kinds", 60, Offices.small()::states);
        CHECK.is("the most that there can be", 1000, Offices.thousandStates()::states);
    }

    private static void statesBeyondThousand() {
        CHECK.sentence("Promise 7: -1 if there are more than 1000");
        PanelOffice x = Offices.thousandStates();
        CHECK.is("1000", 1000, x::states);
        x.person(1, 2, 0);
        CHECK.is("1001", -1, x::states);
        CHECK.is("asked again", -1, x::states);
        PanelOffice y = Offices.thousandAndOneStates();
        CHECK.is("1001 with a most of 8", -1, y::states);
        y.quota(0, 1, 0, 7);
        CHECK.is("1000 with a most of 7", 1000, y::states);
        PanelOffice many = Offices.sixteenKinds();
        many.size(8);
        CHECK.is("far more", -1, many::states);
    }

    private static void howManyPanelsOfAPerson() {
        CHECK.sentence("Promise 8: How many panels a person is in");
        PanelOffice x = Offices.byValue(2, 2, 2, 1);
        x.quota(0, 0, 1, 1);
        CHECK.is("panels", 6, x::count);
        CHECK.is("one of the two that are needed", 3, () -> x.chance(0));
        CHECK.is("one of the others", 2, () -> x.chance(2));
        CHECK.is("the last of the others", 2, () -> x.chance(4));
        x.quota(0, 2, 0, 0);
        CHECK.is("in no panel", 0, () -> x.chance(4));
        CHECK.is("one of the two that are needed, then", 2, () -> x.chance(0));
        CHECK.is("one of the others, then", 2, () -> x.chance(3));
        x.person(0, 0, 0);
        CHECK.is("one of three that are needed", 2, () -> x.chance(0));
        CHECK.is("one of the others, with three that are needed", 3, () -> x.chance(3));
        PanelOffice all = Offices.alike(8, 8);
        CHECK.is("in the only panel", 1, () -> all.chance(7));
        all.person(0, 0, 0);
        CHECK.is("in all but one", 8, () -> all.chance(7));
        all.quota(0, 0, 0, 0);
        CHECK.is("no panel at all", 0, () -> all.chance(7));
        CHECK.is("in the most that there can be", 15380937, () -> Offices.alike(40, 8).chance(39));
    }

    private static void chanceOfNoSuchPerson() {
        CHECK.sentence("Promise 8: IllegalArgumentException if there is no such person");
        PanelOffice x = new PanelOffice();
        CHECK.argument("no person at all", () -> x.chance(0));
        x.person(0, 0, 0);
        CHECK.argument("-1", () -> x.chance(-1));
        CHECK.is("the only one", 1, () -> x.chance(0));
        CHECK.argument("one behind", () -> x.chance(1));
        CHECK.argument("the lowest", () -> x.chance(Integer.MIN_VALUE));
        CHECK.argument("the highest", () -> x.chance(Integer.MAX_VALUE));
        PanelOffice full = Offices.alike(40, 1);
        CHECK.is("person 39", 1, () -> full.chance(39));
        CHECK.argument("person 40", () -> full.chance(40));
    }

    private static void chanceIsRefused() {
        CHECK.sentence("Promise 8: UnsupportedOperationException if counting is refused");
        PanelOffice x = Offices.thousandStates();
        CHECK.is("1000 states", 38760, () -> x.chance(0));
        x.person(1, 2, 0);
        CHECK.refused("1001 states", () -> x.chance(0));
        CHECK.refused("1001 states, the last person", () -> x.chance(21));
        CHECK.argument("no such person is looked at first", () -> x.chance(22));
        CHECK.argument("-1 is looked at first", () -> x.chance(-1));
    }

    private static void howManyKinds() {
        CHECK.sentence("Promise 9: How many kinds there are (person = -1)");
        PanelOffice x = Offices.withCodes(new int[] {2, 1, 1}, 1);
        CHECK.is("no person", 0, () -> x.kind(-1));
        x.person(1, 0, 0);
        CHECK.is("one", 1, () -> x.kind(-1));
        x.person(1, 0, 0);
        CHECK.is("one of two persons", 1, () -> x.kind(-1));
        x.person(0, 0, 0);
        CHECK.is("two", 2, () -> x.kind(-1));
        CHECK.is("the most that there can be", 16, () -> Offices.sixteenKinds().kind(-1));
    }

    private static void kindOfAPerson() {
        CHECK.sentence("Promise 9: or the kind of a person");
        PanelOffice x = Offices.sixteenKinds();
        CHECK.is("the first person", 15, () -> x.kind(0));
        CHECK.is("the last person", 0, () -> x.kind(15));
        x.person(3, 3, 0);
        CHECK.is("one more of the last kind", 15, () -> x.kind(16));
        CHECK.is("when counting is refused, too", 7, () -> refusedSixteen().kind(8));
    }

    private static PanelOffice refusedSixteen() {
        PanelOffice x = Offices.sixteenKinds();
        x.size(8);
        CHECK.refused("count()", x::count);
        return x;
    }

    private static void kindOfNoSuchPerson() {
        CHECK.sentence("Promise 9: IllegalArgumentException if there is no such person");
        PanelOffice x = new PanelOffice();
        CHECK.argument("no person at all", () -> x.kind(0));
        x.person(0, 0, 0);
        CHECK.is("the only one", 0, () -> x.kind(0));
        CHECK.argument("one behind", () -> x.kind(1));
        CHECK.is("-1 is no person, but asks for kinds", 1, () -> x.kind(-1));
        CHECK.argument("-2", () -> x.kind(-2));
        CHECK.argument("the lowest", () -> x.kind(Integer.MIN_VALUE));
        CHECK.argument("the highest", () -> x.kind(Integer.MAX_VALUE));
        PanelOffice full = Offices.alike(40, 1);
        CHECK.is("person 39", 0, () -> full.kind(39));
        CHECK.argument("person 40", () -> full.kind(40));
    }

    private static void blockedAsTenTimesTrait() {
        CHECK.sentence("Promise 10: The i-th BLOCKED quota, as 10 * trait + value");
        for (int t = 0; t < 3; t++) {
            for (int v = 0; v < 4; v++) {
                PanelOffice x = Offices.withCodes(new int[] {4, 4, 4}, 2, "000", "111", "222", "333");
                x.quota(t, v, 2, 2);
                CHECK.blockedAre(x, 10 * t + v);
            }
        }
    }

    private static void notSoManyBlocked() {
        CHECK.sentence("Promise 10: -1 if there are not so many");
        PanelOffice x = Offices.withCodes(new int[] {4, 1, 1}, 2, "000", "100", "200", "300");
        for (int v = 0; v < 4; v++) {
            x.quota(0, v, 0, 0);
        }
        CHECK.is("the first", 1, () -> x.blocked(0));
        CHECK.is("the last", 3, () -> x.blocked(2));
        CHECK.is("one behind it", -1, () -> x.blocked(3));
        CHECK.is("behind all quotas", -1, () -> x.blocked(12));
        CHECK.is("far behind", -1, () -> x.blocked(Integer.MAX_VALUE));
        CHECK.is("none, for want of persons", -1, () -> new PanelOffice().blocked(0));
    }

    private static void noneBlockedIfThereIsAPanel() {
        CHECK.sentence("Promise 10: or there is a panel");
        PanelOffice x = Offices.byValue(2, 2, 1);
        x.quota(0, 0, 2, 2);
        x.quota(0, 1, 0, 0);
        CHECK.is("just one panel", 1, x::count);
        CHECK.is("none is blocked", -1, () -> x.blocked(0));
        x.quota(0, 1, 1, 1);
        CHECK.is("no panel", 0, x::count);
        CHECK.is("one is blocked", 0, () -> x.blocked(0));
        x.quota(0, 1, 0, 0);
        x.dice(2);
        x.draw();
        CHECK.is("none is blocked when drawn", -1, () -> x.blocked(0));
    }

    private static void blockedBelowZero() {
        CHECK.sentence("Promise 10: IllegalArgumentException if i is below 0");
        PanelOffice x = Offices.alike(2, 2);
        CHECK.argument("-1 with a panel", () -> x.blocked(-1));
        CHECK.is("0 with a panel", -1, () -> x.blocked(0));
        x.quota(0, 0, 0, 1);
        CHECK.argument("-1 with no panel", () -> x.blocked(-1));
        CHECK.argument("the lowest", () -> x.blocked(Integer.MIN_VALUE));
        CHECK.is("0 with no panel", 0, () -> x.blocked(0));
        PanelOffice many = Offices.thousandAndOneStates();
        CHECK.argument("-1 when counting is refused", () -> many.blocked(-1));
        CHECK.refused("0 when counting is refused", () -> many.blocked(0));
    }

    private static void blockedIsRefused() {
        CHECK.sentence("Promise 10: UnsupportedOperationException if counting is refused");
        PanelOffice x = Offices.thousandStates();
        x.quota(0, 0, 8, 8);
        CHECK.is("1000 states", 0, () -> x.blocked(0));
        CHECK.is("1000 states, behind the last", -1, () -> x.blocked(1));
        x.person(1, 2, 0);
        CHECK.refused("1001 states", () -> x.blocked(0));
        CHECK.refused("1001 states, behind the last", () -> x.blocked(1));
        CHECK.refused("1001 states and panels", () -> Offices.thousandAndOneStates().blocked(0));
    }

    /** All have value 0 of trait 2: a most of 0 leaves few states and no panel. */
    private static void blockedIsRefusedWithoutAQuota() {
        CHECK.sentence("Promise 10: also with those left out (one alone)");
        PanelOffice x = Offices.thousandStates();
        x.quota(2, 0, 0, 0);
        CHECK.is("few states with it", 6, x::states);
        CHECK.is("1000 states without it", 20, () -> x.blocked(0));
        CHECK.is("1000 states without it, behind the last", -1, () -> x.blocked(1));
        x.person(1, 2, 0);
        CHECK.is("few states with it", 6, x::states);
        CHECK.is("no panel", 0, x::count);
        CHECK.refused("1001 states without it", () -> x.blocked(0));
        CHECK.refused("1001 states without it, behind the last", () -> x.blocked(1));
        CHECK.is("count() is not refused afterwards", 0, x::count);
        x.size(6);
        CHECK.is("fewer states again", 20, () -> x.blocked(0));
    }

    private static void blockedIsRefusedWithThoseLeftOut() {
        CHECK.sentence("Promise 10: also with those left out (one after the other)");
        PanelOffice x = Offices.thousandAndOneStates();
        x.quota(0, 1, 0, 7);
        x.quota(2, 0, 0, 0);
        CHECK.is("few states with both, or with the second", 6, x::states);
        CHECK.refused("1001 states without both", () -> x.blocked(0));
        CHECK.refused("1001 states without both, behind the last", () -> x.blocked(12));
        x.quota(2, 0, 0, 8);
        x.quota(0, 0, 5, 8);
        x.quota(0, 1, 5, 7);
        CHECK.is("1000 states with both", 1000, x::states);
        CHECK.is("no panel", 0, x::count);
        CHECK.refused("1001 states without the second", () -> x.blocked(0));
        x.quota(0, 0, 0, 8);
        x.quota(0, 1, 0, 7);
        x.quota(1, 0, 8, 8);
        CHECK.is("1000 states with both", 1000, x::states);
        CHECK.refused("1001 states without the first, though the second would be told", () -> x.blocked(0));
        x.quota(0, 1, 0, 8);
        CHECK.refused("1001 states with the second alone", () -> x.blocked(0));
        PanelOffice y = Offices.thousandStates();
        y.quota(0, 1, 0, 0);
        y.quota(2, 0, 0, 0);
        CHECK.is("1000 states without both", 20, () -> y.blocked(0));
        CHECK.is("1000 states without both, behind the last", -1, () -> y.blocked(1));
    }
}
