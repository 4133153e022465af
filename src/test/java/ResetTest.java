/** Promise 23: reset. */
public final class ResetTest {
    private static final Check CHECK = new Check("ResetTest");

    public static void main(String[] args) {
        afterChanges();
        afterNarrowQuotas();
        afterThrows();
        afterADraw();
        afterAClash();
        resetOfANewObject();
        CHECK.finish();
    }

    private static void isAsAtFirst(String when, PanelOffice x) {
        CHECK.is(when + ": kind(-1)", 0, () -> x.kind(-1));
        CHECK.is(when + ": count()", 0, x::count);
        CHECK.is(when + ": states()", 0, x::states);
        CHECK.is(when + ": blocked(0)", -1, () -> x.blocked(0));
        CHECK.is(when + ": candidate(0)", -1, () -> x.candidate(0));
        CHECK.missing(when + ": number()", x::number);
        CHECK.state(when + ": roll(1)", () -> x.roll(1));
        CHECK.state(when + ": member(0)", () -> x.member(0));
        CHECK.state(when + ": breach()", x::breach);
        CHECK.state(when + ": dropOut(0)", () -> x.dropOut(0));
        CHECK.argument(when + ": mark(0)", () -> x.mark(0));
        for (int t = 0; t < 3; t++) {
            int trait = t;
            CHECK.argument(when + ": a second value", () -> x.quota(trait, 1, 0, 8));
        }
        CHECK.is(when + ": person(0, 0, 0)", 0, () -> x.person(0, 0, 0));
        CHECK.is(when + ": size 1, no quotas", 1, x::count);
        CHECK.missing(when + ": no marks", x::rank);
        CHECK.is(when + ": chance(0)", 1, () -> x.chance(0));
        for (int t = 0; t < 3; t++) {
            x.trait(t, 4);
        }
        CHECK.is(when + ": quotas of all values are 0 and 8", 1, x::count);
        for (int p = 1; p < 8; p++) {
            x.person(3, 3, 3);
        }
        x.size(8);
        CHECK.is(when + ": of eight too", 1, x::count);
        x.dice(2);
        CHECK.works(when + ": draw()", x::draw);
        x.dropOut(0);
        CHECK.is(when + ": no one but the one who left", -1, () -> x.candidate(0));
    }

    private static PanelOffice used() {
        PanelOffice x = Offices.small();
        x.quota(0, 1, 0, 3);
        x.quota(1, 2, 0, 2);
        x.quota(2, 1, 0, 2);
        x.mark(0);
        x.mark(3);
        return x;
    }

    private static void afterNarrowQuotas() {
        PanelOffice x = new PanelOffice();
        for (int t = 0; t < 3; t++) {
            x.trait(t, 4);
            for (int v = 0; v < 4; v++) {
                x.quota(t, v, 0, 0);
            }
        }
        x.reset();
        isAsAtFirst("after quotas of 0", x);
    }

    private static void afterChanges() {
        PanelOffice x = used();
        x.count();
        CHECK.works("reset()", x::reset);
        isAsAtFirst("after changes", x);
    }

    private static void afterThrows() {
        PanelOffice begun = used();
        begun.dice(2);
        begun.roll(1);
        begun.reset();
        isAsAtFirst("after throws", begun);
        PanelOffice made = used();
        made.dice(20);
        made.roll(1);
        made.roll(1);
        made.reset();
        isAsAtFirst("after a number", made);
    }

    private static void afterADraw() {
        PanelOffice x = Offices.small();
        Offices.drawWith(x, 6, 3, 2);
        x.reset();
        isAsAtFirst("after a draw", x);
        PanelOffice y = Offices.small();
        Offices.drawWith(y, 6, 3, 2);
        y.dropOut(2);
        y.reset();
        isAsAtFirst("after a member dropped out", y);
        PanelOffice z = Offices.alike(3, 1);
        Offices.drawWith(z, 3, 1);
        z.dropOut(0);
        z.reset();
        z.person(0, 0, 0);
        z.person(0, 0, 0);
        Offices.drawWith(z, 2, 2);
        z.dropOut(1);
        CHECK.is("who dropped out before may come now", 0, () -> z.candidate(0));
    }

    private static void afterAClash() {
        PanelOffice x = used();
        x.quota(0, 0, 8, 8);
        CHECK.is("a quota blocks", 0, () -> x.blocked(0));
        x.reset();
        isAsAtFirst("after a clash", x);
    }

    private static void resetOfANewObject() {
        PanelOffice x = new PanelOffice();
        x.reset();
        x.reset();
        isAsAtFirst("twice", x);
    }
}
