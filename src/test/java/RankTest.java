/** Promises 11, 12 and 13: panel, mark, rank. */
public final class RankTest {
    private static final Check CHECK = new Check("RankTest");

    public static void main(String[] args) {
        panelsInTheirOrder();
        fewerOfTheFirstKindComeFirst();
        membersAreToldKindByKind();
        panelRefusesWrongArguments();
        panelsOfTheLargestPool();
        markIsTurned();
        markRefusesWrongPersons();
        marksStayWhenThePoolIsChanged();
        markWhenDrawn();
        rankOfTheMarked();
        rankOfNoPanel();
        ranksAndPanelsAreOneAnothersInverse();
        CHECK.finish();
    }

    private static void panelsInTheirOrder() {
        PanelOffice x = Offices.small();
        CHECK.panelIs(x, 0, 4, 5, 1);
        CHECK.panelIs(x, 5, 0, 3, 5);
        CHECK.panelIs(x, 6, 0, 4, 1);
        CHECK.panelIs(x, 11, 2, 3, 5);
        CHECK.panelIs(x, 13, 2, 4, 5);
        PanelOffice y = Offices.alike(4, 2);
        CHECK.panelIs(y, 0, 0, 1);
        CHECK.panelIs(y, 1, 0, 2);
        CHECK.panelIs(y, 2, 0, 3);
        CHECK.panelIs(y, 3, 1, 2);
        CHECK.panelIs(y, 4, 1, 3);
        CHECK.panelIs(y, 5, 2, 3);
    }

    private static void fewerOfTheFirstKindComeFirst() {
        PanelOffice x = new PanelOffice();
        x.trait(0, 2);
        x.person(0, 0, 0);
        x.person(1, 0, 0);
        x.person(0, 0, 0);
        x.person(1, 0, 0);
        x.size(2);
        CHECK.panelIs(x, 0, 1, 3);
        CHECK.panelIs(x, 1, 0, 1);
        CHECK.panelIs(x, 2, 0, 3);
        CHECK.panelIs(x, 3, 2, 1);
        CHECK.panelIs(x, 4, 2, 3);
        CHECK.panelIs(x, 5, 0, 2);
        CHECK.argument("panel(6, 0)", () -> x.panel(6, 0));
    }

    private static void membersAreToldKindByKind() {
        PanelOffice x = Offices.sixteenKinds();
        x.size(2);
        CHECK.panelIs(x, 0, 1, 0);
        CHECK.panelIs(x, x.count() - 1, 15, 14);
    }

    private static void panelRefusesWrongArguments() {
        PanelOffice x = Offices.small();
        CHECK.argument("panel(0, -1)", () -> x.panel(0, -1));
        CHECK.argument("panel(0, 3)", () -> x.panel(0, 3));
        CHECK.argument("panel(-1, 0)", () -> x.panel(-1, 0));
        CHECK.argument("panel(27, 0)", () -> x.panel(27, 0));
        CHECK.argument("panel(2 to the 32nd, 0)", () -> x.panel(1L << 32, 0));
        CHECK.argument("panel(most long, 0)", () -> x.panel(Long.MAX_VALUE, 0));
        CHECK.argument("panel(least long, 0)", () -> x.panel(Long.MIN_VALUE, 0));
        CHECK.works("panel(26, 2)", () -> x.panel(26, 2));
        CHECK.argument("no person at all", () -> new PanelOffice().panel(0, 0));
    }

    private static void panelsOfTheLargestPool() {
        PanelOffice x = Offices.alike(40, 8);
        CHECK.panelIs(x, 0, 0, 1, 2, 3, 4, 5, 6, 7);
        CHECK.panelIs(x, 1, 0, 1, 2, 3, 4, 5, 6, 8);
        CHECK.panelIs(x, 15380936, 0, 33, 34, 35, 36, 37, 38, 39);
        CHECK.panelIs(x, 15380937, 1, 2, 3, 4, 5, 6, 7, 8);
        CHECK.panelIs(x, 76904684, 32, 33, 34, 35, 36, 37, 38, 39);
        for (int p = 32; p < 40; p++) {
            x.mark(p);
        }
        CHECK.is("rank of the last", 76904684, x::rank);
    }

    private static void markIsTurned() {
        PanelOffice x = Offices.alike(40, 1);
        for (int p = 0; p < 40; p += 13) {
            int person = p;
            CHECK.holds("mark(" + p + ")", x.mark(person));
            CHECK.is("its rank", p, x::rank);
            CHECK.holds("mark(" + p + ") again", !x.mark(person));
            CHECK.missing("no rank", x::rank);
        }
    }

    private static void markRefusesWrongPersons() {
        PanelOffice x = Offices.small();
        CHECK.argument("mark(-1)", () -> x.mark(-1));
        CHECK.argument("mark(7)", () -> x.mark(7));
        CHECK.argument("mark(64)", () -> x.mark(64));
        CHECK.argument("mark in an empty pool", () -> new PanelOffice().mark(0));
    }

    private static void marksStayWhenThePoolIsChanged() {
        PanelOffice x = Offices.small();
        x.mark(0);
        x.mark(1);
        x.trait(1, 4);
        x.quota(0, 0, 0, 8);
        x.size(2);
        x.person(0, 3, 0);
        CHECK.is("panel of the marked", 1, () -> (x.panel(x.rank(), 0) == 0 && x.panel(x.rank(), 1) == 1) ? 1 : 0);
        CHECK.holds("mark(0) is no more", !x.mark(0));
        CHECK.holds("mark(7) of a new person", x.mark(7));
    }

    private static void markWhenDrawn() {
        PanelOffice x = Offices.small();
        x.mark(0);
        Offices.drawWith(x, 6, 3, 2);
        CHECK.holds("mark(1)", x.mark(1));
        CHECK.holds("mark(4)", x.mark(4));
        CHECK.is("rank()", 6, x::rank);
        x.dropOut(2);
        CHECK.holds("mark(4) no more", !x.mark(4));
    }

    private static void rankOfTheMarked() {
        PanelOffice x = Offices.small();
        x.mark(4);
        x.mark(0);
        x.mark(1);
        CHECK.is("rank()", 6, x::rank);
        x.quota(2, 0, 2, 2);
        CHECK.is("rank() of fewer panels", 0, x::rank);
        x.mark(1);
        x.mark(3);
        CHECK.is("rank() of another of them", 2, x::rank);
    }

    private static void rankOfNoPanel() {
        PanelOffice x = Offices.small();
        CHECK.missing("none marked", x::rank);
        x.mark(0);
        x.mark(1);
        CHECK.missing("too few", x::rank);
        x.mark(4);
        x.mark(5);
        CHECK.missing("too many", x::rank);
        x.mark(0);
        x.mark(4);
        x.mark(3);
        CHECK.missing("below a least", x::rank);
        PanelOffice y = Offices.small();
        y.mark(0);
        y.mark(2);
        y.mark(6);
        CHECK.missing("above a most", y::rank);
    }

    private static PanelOffice mixed() {
        PanelOffice x = new PanelOffice();
        x.trait(0, 2);
        x.trait(1, 3);
        for (int p = 0; p < 40; p++) {
            x.person(p * 7 % 2, p * 5 % 3, 0);
        }
        x.size(5);
        x.quota(0, 0, 1, 3);
        x.quota(1, 2, 1, 2);
        return x;
    }

    private static void ranksAndPanelsAreOneAnothersInverse() {
        PanelOffice x = mixed();
        long panels = x.count();
        long seats = 0;
        for (int p = 0; p < 40; p++) {
            seats += x.chance(p);
        }
        CHECK.same("all chances together", String.valueOf(5 * panels), String.valueOf(seats));
        long step = 1 + panels / 997;
        // Nothing is promised of an object after its 512th call.
        for (long from = 0; from < panels; from += 20 * step) {
            inverseFrom(mixed(), from, Math.min(panels, from + 20 * step), step);
        }
    }

    private static void inverseFrom(PanelOffice x, long from, long end, long step) {
        for (long rank = from; rank < end; rank += step) {
            int[] members = {x.panel(rank, 0), x.panel(rank, 1), x.panel(rank, 2), x.panel(rank, 3), x.panel(rank, 4)};
            CHECK.is("rank of panel " + rank, rank, () -> Offices.rankOf(x, members));
        }
    }
}
