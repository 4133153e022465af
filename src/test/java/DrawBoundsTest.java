/** Each sentence of the promises 17 to 23 that names a bound or a refused call, from both its sides. */
public final class DrawBoundsTest {
    private static final Check CHECK = new Check("DrawBoundsTest");

    public static void main(String[] args) {
        CHECK.run(DrawBoundsTest::panelOfTheNumber);
        CHECK.run(DrawBoundsTest::numberIsUsed);
        CHECK.run(DrawBoundsTest::throwsEndToo);
        CHECK.run(DrawBoundsTest::drawIfNotOpen);
        CHECK.run(DrawBoundsTest::drawWithoutANumber);
        CHECK.run(DrawBoundsTest::memberInItsOrder);
        CHECK.run(DrawBoundsTest::thatOnesPlace);
        CHECK.run(DrawBoundsTest::whereAPlaceIsEmpty);
        CHECK.run(DrawBoundsTest::memberIfNotDrawn);
        CHECK.run(DrawBoundsTest::memberNotBelowSize);
        CHECK.run(DrawBoundsTest::aMemberDropsOut);
        CHECK.run(DrawBoundsTest::dropOutIfNotDrawn);
        CHECK.run(DrawBoundsTest::dropOutIfAPlaceIsEmpty);
        CHECK.run(DrawBoundsTest::dropOutOfNoMember);
        CHECK.run(DrawBoundsTest::theCandidates);
        CHECK.run(DrawBoundsTest::notSoManyCandidates);
        CHECK.run(DrawBoundsTest::noPlaceIsEmptyForACandidate);
        CHECK.run(DrawBoundsTest::candidateBelowZero);
        CHECK.run(DrawBoundsTest::candidateOfTheNumberComes);
        CHECK.run(DrawBoundsTest::replaceIfNoPlaceIsEmpty);
        CHECK.run(DrawBoundsTest::replaceWithoutANumber);
        CHECK.run(DrawBoundsTest::breachAsMembersAreNow);
        CHECK.run(DrawBoundsTest::breachIfNotDrawn);
        CHECK.run(DrawBoundsTest::allAsAtFirst);
        CHECK.finish();
    }

    /** Panel 7 of 15, with the persons 1 and 4, is drawn; the other four could come. */
    private static PanelOffice alikeDrawn() {
        PanelOffice x = Offices.alike(6, 2);
        Offices.drawWith(x, 15, 8);
        return x;
    }

    private static PanelOffice vacant() {
        PanelOffice x = alikeDrawn();
        x.dropOut(1);
        return x;
    }

    private static void panelOfTheNumber() {
        CHECK.sentence("Promise 17: The panel of the number is DRAWN");
        PanelOffice first = Offices.alike(6, 2);
        Offices.drawWith(first, 15, 1);
        CHECK.membersAre(first, 0, 1);
        PanelOffice last = Offices.alike(6, 2);
        Offices.drawWith(last, 15, 15);
        CHECK.membersAre(last, 4, 5);
        PanelOffice most = Offices.alike(8, 8);
        Offices.drawWith(most, 2);
        CHECK.membersAre(most, 0, 1, 2, 3, 4, 5, 6, 7);
    }

    private static void numberIsUsed() {
        CHECK.sentence("Promise 17: the number is used");
        PanelOffice x = Offices.alike(6, 2);
        x.dice(15);
        x.roll(8);
        CHECK.is("before", 7, x::number);
        x.draw();
        CHECK.missing("after", x::number);
        x.dropOut(1);
        CHECK.state("no use for the place", x::replace);
    }

    private static void throwsEndToo() {
        CHECK.sentence("Promise 17: (Whenever a member drops out or comes, throws end, too.)");
        PanelOffice x = vacant();
        CHECK.state("one dropped out: no throws", () -> x.roll(1));
        CHECK.missing("one dropped out: no number", x::number);
        x.dice(4);
        CHECK.is("throws for the place", 1, () -> x.roll(2));
        CHECK.is("a number for the place", 1, x::number);
        x.replace();
        CHECK.state("one came: no throws", () -> x.roll(1));
        CHECK.missing("one came: no number", x::number);
        x.dropOut(4);
        CHECK.state("another dropped out: no throws", () -> x.roll(1));
        CHECK.state("another dropped out: no number", x::replace);
        x.dice(2);
        CHECK.is("throws go on while nobody drops out or comes", 0, () -> x.roll(1));
        CHECK.state("a refused dropOut", () -> x.dropOut(2));
        CHECK.state("a refused replace", x::replace);
        CHECK.is("throws go on", 1, () -> x.roll(2));
    }

    private static void drawIfNotOpen() {
        CHECK.sentence("Promise 17: IllegalStateException if it is not OPEN");
        PanelOffice x = Offices.alike(2, 1);
        x.dice(2);
        x.roll(1);
        CHECK.works("open, with a number", x::draw);
        CHECK.state("drawn", x::draw);
        x.dropOut(0);
        x.dice(2);
        CHECK.is("a number for the place", 0, x::number);
        CHECK.state("drawn, with a number", x::draw);
        CHECK.is("the number stays", 0, x::number);
        CHECK.membersAre(x, -1);
        x.reset();
        x.person(0, 0, 0);
        x.dice(2);
        CHECK.works("open again", x::draw);
    }

    private static void drawWithoutANumber() {
        CHECK.sentence("Promise 17: or there is no number");
        PanelOffice x = Offices.alike(3, 1);
        CHECK.state("none begun", x::draw);
        x.dice(2);
        CHECK.state("begun", x::draw);
        x.roll(2);
        CHECK.state("more are needed", x::draw);
        x.roll(2);
        CHECK.state("all are thrown again", x::draw);
        x.roll(1);
        x.roll(2);
        CHECK.works("a number", x::draw);
        CHECK.membersAre(x, 1);
    }

    private static void memberInItsOrder() {
        CHECK.sentence("Promise 18: Member i of the panel drawn, in its order");
        PanelOffice x = Offices.withCodes(new int[] {2, 1, 1}, 3, "100", "100", "000", "000");
        Offices.drawWith(x, 4, 4);
        CHECK.membersAre(x, 2, 3, 1);
        PanelOffice y = Offices.withCodes(new int[] {2, 1, 1}, 3, "100", "100", "000", "000");
        Offices.drawWith(y, 4, 1);
        CHECK.membersAre(y, 2, 0, 1);
    }

    private static void thatOnesPlace() {
        CHECK.sentence("Promise 18: (who replaced another has that one's place)");
        PanelOffice first = vacant();
        first.dice(4);
        first.roll(4);
        first.replace();
        CHECK.membersAre(first, 5, 4);
        PanelOffice last = alikeDrawn();
        last.dropOut(4);
        last.dice(4);
        last.roll(1);
        last.replace();
        CHECK.membersAre(last, 1, 0);
    }

    private static void whereAPlaceIsEmpty() {
        CHECK.sentence("Promise 18: -1 where a place is empty");
        PanelOffice x = alikeDrawn();
        CHECK.membersAre(x, 1, 4);
        x.dropOut(1);
        CHECK.membersAre(x, -1, 4);
        PanelOffice y = alikeDrawn();
        y.dropOut(4);
        CHECK.membersAre(y, 1, -1);
    }

    private static void memberIfNotDrawn() {
        CHECK.sentence("Promise 18: IllegalStateException if it is not DRAWN");
        PanelOffice x = Offices.alike(1, 1);
        CHECK.state("open", () -> x.member(0));
        CHECK.state("open, no such place is looked at last", () -> x.member(1));
        CHECK.state("open, below 0", () -> x.member(-1));
        x.dice(2);
        CHECK.state("open, with a number", () -> x.member(0));
        x.draw();
        CHECK.is("drawn", 0, () -> x.member(0));
        x.reset();
        CHECK.state("open again", () -> x.member(0));
    }

    private static void memberNotBelowSize() {
        CHECK.sentence("Promise 18: IllegalArgumentException if i is not below size");
        for (int n = 1; n <= 8; n++) {
            int size = n;
            PanelOffice x = Offices.alike(n, n);
            x.dice(2);
            x.draw();
            CHECK.argument("size " + n + ", place -1", () -> x.member(-1));
            CHECK.is("size " + n + ", the last place", size - 1, () -> x.member(size - 1));
            CHECK.argument("size " + n + ", one behind it", () -> x.member(size));
            CHECK.argument("size " + n + ", the highest", () -> x.member(Integer.MAX_VALUE));
        }
    }

    private static void aMemberDropsOut() {
        CHECK.sentence("Promise 19: A member drops out");
        PanelOffice x = alikeDrawn();
        CHECK.works("the last member", () -> x.dropOut(4));
        CHECK.membersAre(x, 1, -1);
        CHECK.candidatesAre(x, 0, 2, 3, 5);
        x.dice(4);
        x.roll(4);
        x.replace();
        CHECK.works("who came", () -> x.dropOut(5));
        CHECK.membersAre(x, 1, -1);
        CHECK.candidatesAre(x, 0, 2, 3);
    }

    private static void dropOutIfNotDrawn() {
        CHECK.sentence("Promise 19: IllegalStateException if it is not DRAWN");
        PanelOffice x = Offices.alike(1, 1);
        CHECK.state("no person", () -> new PanelOffice().dropOut(0));
        CHECK.state("open", () -> x.dropOut(0));
        CHECK.state("open, no such person", () -> x.dropOut(1));
        x.dice(2);
        CHECK.state("open, with a number", () -> x.dropOut(0));
        x.draw();
        CHECK.works("drawn", () -> x.dropOut(0));
    }

    private static void dropOutIfAPlaceIsEmpty() {
        CHECK.sentence("Promise 19: or a place is empty");
        PanelOffice x = vacant();
        CHECK.state("a member", () -> x.dropOut(4));
        CHECK.state("who dropped out", () -> x.dropOut(1));
        CHECK.state("no member is looked at last", () -> x.dropOut(0));
        CHECK.state("-1", () -> x.dropOut(-1));
        CHECK.membersAre(x, -1, 4);
        x.dice(4);
        x.roll(1);
        x.replace();
        CHECK.works("no place is empty", () -> x.dropOut(4));
    }

    private static void dropOutOfNoMember() {
        CHECK.sentence("Promise 19: NoSuchElementException if that is no member");
        PanelOffice x = alikeDrawn();
        for (int person : new int[] {Integer.MIN_VALUE, -64, -1, 0, 2, 5, 6, 65, 68, Integer.MAX_VALUE}) {
            CHECK.missing("dropOut(" + person + ")", () -> x.dropOut(person));
        }
        CHECK.membersAre(x, 1, 4);
        CHECK.works("a member", () -> x.dropOut(1));
        x.dice(4);
        x.roll(1);
        x.replace();
        CHECK.missing("who dropped out before", () -> x.dropOut(1));
        CHECK.works("who came", () -> x.dropOut(0));
    }

    private static void theCandidates() {
        CHECK.sentence("Promise 20: The i-th candidate");
        PanelOffice x = vacant();
        CHECK.is("the first", 0, () -> x.candidate(0));
        CHECK.is("the last", 5, () -> x.candidate(3));
        PanelOffice most = Offices.alike(40, 1);
        Offices.drawWith(most, 20, 1, 1);
        most.dropOut(0);
        CHECK.is("the first of the most", 1, () -> most.candidate(0));
        CHECK.is("the last of the most", 39, () -> most.candidate(38));
        CHECK.is("one behind it", -1, () -> most.candidate(39));
    }

    private static void notSoManyCandidates() {
        CHECK.sentence("Promise 20: -1 if there are not so many");
        PanelOffice x = vacant();
        CHECK.is("the last", 5, () -> x.candidate(3));
        CHECK.is("one behind it", -1, () -> x.candidate(4));
        CHECK.is("behind all persons", -1, () -> x.candidate(40));
        CHECK.is("far behind", -1, () -> x.candidate(Integer.MAX_VALUE));
        PanelOffice none = Offices.alike(1, 1);
        none.dice(2);
        none.draw();
        none.dropOut(0);
        CHECK.is("none at all", -1, () -> none.candidate(0));
    }

    private static void noPlaceIsEmptyForACandidate() {
        CHECK.sentence("Promise 20: or no place is empty");
        PanelOffice x = Offices.alike(2, 1);
        CHECK.is("open", -1, () -> x.candidate(0));
        Offices.drawWith(x, 2, 1);
        CHECK.is("drawn", -1, () -> x.candidate(0));
        x.dropOut(0);
        CHECK.is("a place is empty", 1, () -> x.candidate(0));
        x.dice(2);
        x.replace();
        CHECK.is("no place is empty again", -1, () -> x.candidate(0));
    }

    private static void candidateBelowZero() {
        CHECK.sentence("Promise 20: IllegalArgumentException if i is below 0");
        PanelOffice x = Offices.alike(2, 1);
        CHECK.argument("-1, open", () -> x.candidate(-1));
        CHECK.is("0, open", -1, () -> x.candidate(0));
        Offices.drawWith(x, 2, 1);
        CHECK.argument("-1, drawn", () -> x.candidate(-1));
        x.dropOut(0);
        CHECK.argument("-1, a place is empty", () -> x.candidate(-1));
        CHECK.argument("the lowest", () -> x.candidate(Integer.MIN_VALUE));
        CHECK.is("0, a place is empty", 1, () -> x.candidate(0));
    }

    private static void candidateOfTheNumberComes() {
        CHECK.sentence("Promise 21: The candidate of the number comes to the empty place: who");
        int[] due = {0, 2, 3, 5};
        for (int side = 1; side <= 4; side++) {
            PanelOffice x = vacant();
            x.dice(4);
            x.roll(side);
            CHECK.is("number " + (side - 1), due[side - 1], x::replace);
            CHECK.membersAre(x, due[side - 1], 4);
            CHECK.candidatesAre(x);
        }
    }

    private static void replaceIfNoPlaceIsEmpty() {
        CHECK.sentence("Promise 21: IllegalStateException if no place is empty");
        PanelOffice x = Offices.alike(2, 1);
        CHECK.state("open", x::replace);
        x.dice(2);
        x.roll(1);
        CHECK.state("open, with a number", x::replace);
        CHECK.is("the number stays", 0, x::number);
        x.draw();
        CHECK.state("drawn", x::replace);
        x.dropOut(0);
        x.dice(2);
        CHECK.is("a place is empty", 1, x::replace);
        CHECK.state("no place is empty again", x::replace);
    }

    private static void replaceWithoutANumber() {
        CHECK.sentence("Promise 21: or there is no number");
        PanelOffice x = Offices.alike(4, 1);
        Offices.drawWith(x, 4, 1);
        x.dropOut(0);
        CHECK.state("none begun", x::replace);
        x.dice(2);
        CHECK.state("begun", x::replace);
        x.roll(2);
        CHECK.state("more are needed", x::replace);
        x.roll(2);
        CHECK.missing("all are thrown again: no number", x::number);
        CHECK.state("all are thrown again", x::replace);
        CHECK.membersAre(x, -1);
        x.roll(1);
        x.roll(2);
        CHECK.is("a number", 2, x::replace);
    }

    private static void breachAsMembersAreNow() {
        CHECK.sentence("Promise 22: The breach of the panel drawn, as its members are now");
        PanelOffice x = Offices.byValue(2, 3, 1);
        x.quota(0, 0, 2, 2);
        Offices.drawWith(x, 3, 1);
        CHECK.is("all members", 0, x::breach);
        x.dropOut(0);
        CHECK.is("an empty place", 1, x::breach);
        CHECK.candidatesAre(x, 2);
        CHECK.is("not as it would be with the candidate", 1, x::breach);
        x.dice(2);
        x.replace();
        CHECK.is("the same value in that place", 0, x::breach);
        x.dropOut(2);
        x.dice(2);
        x.replace();
        CHECK.is("another value in that place", 1, x::breach);
        x.dropOut(1);
        CHECK.is("none of that value", 2, x::breach);
    }

    private static void breachIfNotDrawn() {
        CHECK.sentence("Promise 22: IllegalStateException if it is not DRAWN");
        PanelOffice x = Offices.alike(1, 1);
        CHECK.state("open", x::breach);
        x.dice(2);
        CHECK.state("open, with a number", x::breach);
        x.draw();
        CHECK.is("drawn", 0, x::breach);
        x.dropOut(0);
        CHECK.is("a place is empty", 0, x::breach);
        x.reset();
        CHECK.state("open again", x::breach);
    }

    private static void allAsAtFirst() {
        CHECK.sentence("Promise 23: All as at first");
        isAsAtFirst("new", new PanelOffice());
        isAsAtFirst("quotas", allQuotas(1, 2));
        isAsAtFirst("quotas of none", allQuotas(0, 0));
        PanelOffice marked = Offices.small();
        marked.mark(0);
        isAsAtFirst("marked", marked);
        PanelOffice full = Offices.sixteenKinds();
        full.size(8);
        CHECK.refused("count()", full::count);
        isAsAtFirst("refused", full);
        PanelOffice made = Offices.alike(40, 40 / 5);
        made.dice(20);
        made.roll(1);
        isAsAtFirst("throws begun", made);
        PanelOffice gone = vacant();
        gone.dice(4);
        gone.roll(1);
        isAsAtFirst("a number for an empty place", gone);
    }

    private static PanelOffice allQuotas(int least, int most) {
        PanelOffice x = new PanelOffice();
        for (int t = 0; t < 3; t++) {
            x.trait(t, 4);
            for (int v = 0; v < 4; v++) {
                x.quota(t, v, least, most);
            }
        }
        return x;
    }

    private static void isAsAtFirst(String when, PanelOffice x) {
        x.reset();
        CHECK.is(when + ": kinds", 0, () -> x.kind(-1));
        CHECK.is(when + ": states", 0, x::states);
        CHECK.is(when + ": panels", 0, x::count);
        CHECK.missing(when + ": number", x::number);
        CHECK.state(when + ": roll", () -> x.roll(1));
        CHECK.state(when + ": member", () -> x.member(0));
        CHECK.is(when + ": candidate", -1, () -> x.candidate(0));
        CHECK.argument(when + ": trait 0 has one value", () -> x.person(1, 0, 0));
        CHECK.argument(when + ": trait 1 has one value", () -> x.person(0, 1, 0));
        CHECK.argument(when + ": trait 2 has one value", () -> x.person(0, 0, 1));
        CHECK.is(when + ": the first person", 0, () -> x.person(0, 0, 0));
        CHECK.is(when + ": panels of one", 1, x::count);
        CHECK.holds(when + ": no one is marked", x.mark(0));
        for (int t = 0; t < 3; t++) {
            x.trait(t, 4);
        }
        CHECK.is(when + ": no least", 1, x::count);
        for (int p = 1; p < 8; p++) {
            x.person(p % 4, p % 4, p % 4);
        }
        x.size(8);
        CHECK.is(when + ": no most", 1, x::count);
        x.size(1);
        Offices.drawWith(x, 8, 2);
        CHECK.membersAre(x, 7);
        x.dropOut(7);
        CHECK.candidatesAre(x, 0, 1, 2, 3, 4, 5, 6);
    }
}
