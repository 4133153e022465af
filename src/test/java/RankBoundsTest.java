/** Each sentence of the promises 11 to 13 that names a bound or a refused call, from both its sides. */
public final class RankBoundsTest {
    private static final Check CHECK = new Check("RankBoundsTest");

    public static void main(String[] args) {
        CHECK.run(RankBoundsTest::memberOfThePanelWithARank);
        CHECK.run(RankBoundsTest::noSuchPanel);
        CHECK.run(RankBoundsTest::placeNotBelowSize);
        CHECK.run(RankBoundsTest::panelIsRefused);
        CHECK.run(RankBoundsTest::placeFirstRankLast);
        CHECK.run(RankBoundsTest::markedOrNoMore);
        CHECK.run(RankBoundsTest::alsoWhenDrawn);
        CHECK.run(RankBoundsTest::markOfNoSuchPerson);
        CHECK.run(RankBoundsTest::marksStay);
        CHECK.run(RankBoundsTest::rankOfAllMarked);
        CHECK.run(RankBoundsTest::markedAreNone);
        CHECK.run(RankBoundsTest::rankIsRefused);
        CHECK.run(RankBoundsTest::refusedFirst);
        CHECK.finish();
    }

    private static void memberOfThePanelWithARank() {
        CHECK.sentence("Promise 11: Member i of the panel with a rank");
        PanelOffice x = Offices.byValue(2, 2, 1);
        CHECK.panelIs(x, 0, 0, 2);
        CHECK.panelIs(x, 1, 1, 2);
        CHECK.panelIs(x, 2, 0, 1);
        PanelOffice most = Offices.alike(40, 8);
        CHECK.panelIs(most, 0, 0, 1, 2, 3, 4, 5, 6, 7);
        CHECK.panelIs(most, 76904684, 32, 33, 34, 35, 36, 37, 38, 39);
    }

    private static void noSuchPanel() {
        CHECK.sentence("Promise 11: IllegalArgumentException if there is no such panel");
        PanelOffice x = Offices.alike(3, 2);
        CHECK.argument("-1", () -> x.panel(-1, 0));
        CHECK.is("the first", 0, () -> x.panel(0, 0));
        CHECK.is("the last", 1, () -> x.panel(2, 0));
        CHECK.argument("one behind it", () -> x.panel(3, 0));
        CHECK.argument("the lowest", () -> x.panel(Long.MIN_VALUE, 0));
        CHECK.argument("the highest", () -> x.panel(Long.MAX_VALUE, 0));
        CHECK.argument("2 to the 32nd", () -> x.panel(1L << 32, 0));
        CHECK.argument("less 2 to the 32nd", () -> x.panel(-(1L << 32), 0));
        CHECK.argument("no person", () -> new PanelOffice().panel(0, 0));
        x.quota(0, 0, 0, 1);
        CHECK.argument("no panel", () -> x.panel(0, 0));
        PanelOffice most = Offices.alike(40, 8);
        CHECK.is("the last of the most", 39, () -> most.panel(76904684, 7));
        CHECK.argument("one behind it", () -> most.panel(76904685, 7));
    }

    private static void placeNotBelowSize() {
        CHECK.sentence("Promise 11: or i is not below size");
        for (int n = 1; n <= 8; n++) {
            int size = n;
            PanelOffice x = Offices.alike(8, size);
            CHECK.argument("size " + n + ", place -1", () -> x.panel(0, -1));
            CHECK.is("size " + n + ", the last place", size - 1, () -> x.panel(0, size - 1));
            CHECK.argument("size " + n + ", one behind it", () -> x.panel(0, size));
        }
        PanelOffice x = Offices.alike(8, 8);
        CHECK.argument("the lowest", () -> x.panel(0, Integer.MIN_VALUE));
        CHECK.argument("the highest", () -> x.panel(0, Integer.MAX_VALUE));
    }

    private static void panelIsRefused() {
        CHECK.sentence("Promise 11: UnsupportedOperationException if counting is refused");
        PanelOffice x = Offices.thousandStates();
        CHECK.works("1000 states", () -> x.panel(0, 0));
        CHECK.works("1000 states, the last panel", () -> x.panel(116279, 6));
        x.person(1, 2, 0);
        CHECK.refused("1001 states", () -> x.panel(0, 0));
    }

    private static void placeFirstRankLast() {
        CHECK.sentence("Promise 11: (i is looked at first, the rank last.)");
        PanelOffice x = Offices.thousandAndOneStates();
        CHECK.argument("i behind the last place, and refused", () -> x.panel(0, 8));
        CHECK.argument("i below 0, and refused", () -> x.panel(0, -1));
        CHECK.argument("both wrong, and refused", () -> x.panel(-1, 8));
        CHECK.refused("the rank below 0, and refused", () -> x.panel(-1, 7));
        CHECK.refused("the rank far too high, and refused", () -> x.panel(Long.MAX_VALUE, 0));
        x.size(1);
        CHECK.argument("the rank too high, and not refused", () -> x.panel(17, 0));
    }

    private static void markedOrNoMore() {
        CHECK.sentence("Promise 12: A person is marked, or no more: whether it is now");
        PanelOffice x = Offices.alike(40, 1);
        for (int p : new int[] {0, 1, 31, 32, 39}) {
            CHECK.holds("person " + p + " is", x.mark(p));
            CHECK.holds("person " + p + " is no more", !x.mark(p));
            CHECK.holds("person " + p + " is again", x.mark(p));
        }
    }

    private static void alsoWhenDrawn() {
        CHECK.sentence("Promise 12: (Also when it is DRAWN.)");
        PanelOffice x = Offices.alike(3, 2);
        CHECK.holds("open", x.mark(0));
        Offices.drawWith(x, 3, 1);
        CHECK.holds("drawn, no more", !x.mark(0));
        CHECK.holds("drawn, again", x.mark(0));
        x.dropOut(0);
        CHECK.holds("a place is empty", x.mark(1));
        CHECK.is("their rank", 0, x::rank);
        CHECK.argument("no such person", () -> x.mark(3));
    }

    private static void markOfNoSuchPerson() {
        CHECK.sentence("Promise 12: IllegalArgumentException if there is no such person");
        PanelOffice x = new PanelOffice();
        CHECK.argument("no person at all", () -> x.mark(0));
        x.person(0, 0, 0);
        CHECK.argument("-1", () -> x.mark(-1));
        CHECK.argument("one behind", () -> x.mark(1));
        CHECK.argument("64", () -> x.mark(64));
        CHECK.argument("the lowest", () -> x.mark(Integer.MIN_VALUE));
        CHECK.argument("the highest", () -> x.mark(Integer.MAX_VALUE));
        CHECK.holds("the only one, not marked before", x.mark(0));
        x.person(0, 0, 0);
        CHECK.holds("a new one, not marked before", x.mark(1));
        PanelOffice full = Offices.alike(40, 1);
        CHECK.holds("person 39", full.mark(39));
        CHECK.argument("person 40", () -> full.mark(40));
    }

    private static void marksStay() {
        CHECK.sentence("Promise 12: (Marks stay when the pool is changed.)");
        PanelOffice x = Offices.alike(3, 1);
        x.mark(1);
        x.trait(0, 2);
        CHECK.is("a trait", 1, x::rank);
        x.person(0, 0, 0);
        CHECK.is("a person", 1, x::rank);
        x.quota(0, 1, 0, 1);
        CHECK.is("a quota", 1, x::rank);
        x.size(2);
        x.size(1);
        CHECK.is("the size", 1, x::rank);
        CHECK.holds("no more", !x.mark(1));
        x.mark(2);
        x.reset();
        x.person(0, 0, 0);
        x.person(0, 0, 0);
        x.person(0, 0, 0);
        CHECK.holds("but not when all is as at first", x.mark(2));
    }

    private static void rankOfAllMarked() {
        CHECK.sentence("Promise 13: The rank of the panel of all that are marked");
        PanelOffice x = Offices.byValue(2, 2, 1);
        CHECK.is("the first panel", 0, () -> Offices.rankOf(x, 2, 0));
        CHECK.is("the second", 1, () -> Offices.rankOf(x, 2, 1));
        CHECK.is("the last", 2, () -> Offices.rankOf(x, 1, 0));
        PanelOffice most = Offices.alike(40, 8);
        CHECK.is("the first of the most", 0, () -> Offices.rankOf(most, 0, 1, 2, 3, 4, 5, 6, 7));
        CHECK.is("the last of the most", 76904684, () -> Offices.rankOf(most, 32, 33, 34, 35, 36, 37, 38, 39));
    }

    private static void markedAreNone() {
        CHECK.sentence("Promise 13: NoSuchElementException if they are none");
        PanelOffice x = Offices.byValue(3, 3, 3);
        x.quota(0, 0, 1, 2);
        CHECK.missing("no person", new PanelOffice()::rank);
        CHECK.missing("no one is marked", x::rank);
        CHECK.missing("one too few", () -> Offices.rankOf(x, 0, 3));
        CHECK.is("just so many", 0, () -> Offices.rankOf(x, 0, 3, 4));
        CHECK.missing("one too many", () -> Offices.rankOf(x, 0, 1, 3, 4));
        CHECK.missing("one below a least", () -> Offices.rankOf(x, 3, 4, 5));
        CHECK.is("just a most", 17, () -> Offices.rankOf(x, 1, 2, 5));
        CHECK.missing("one above a most", () -> Offices.rankOf(x, 0, 1, 2));
        CHECK.missing("all", () -> Offices.rankOf(x, 0, 1, 2, 3, 4, 5));
        x.quota(0, 1, 3, 3);
        CHECK.missing("no panel at all", () -> Offices.rankOf(x, 0, 3, 4));
    }

    private static void rankIsRefused() {
        CHECK.sentence("Promise 13: UnsupportedOperationException if counting is refused");
        PanelOffice x = Offices.thousandStates();
        Offices.turnMarks(x, 0, 1, 2, 3, 4, 5, 6);
        CHECK.works("1000 states", x::rank);
        x.person(1, 2, 0);
        CHECK.refused("1001 states", x::rank);
    }

    private static void refusedFirst() {
        CHECK.sentence("Promise 13: (that first)");
        PanelOffice x = Offices.thousandAndOneStates();
        CHECK.refused("no one is marked, and refused", x::rank);
        x.mark(0);
        CHECK.refused("too few are marked, and refused", x::rank);
        x.quota(0, 1, 0, 7);
        CHECK.missing("too few are marked, and not refused", x::rank);
        x.mark(0);
        CHECK.missing("no one is marked, and not refused", x::rank);
    }
}
