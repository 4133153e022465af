/** Promises 17 to 22: draw, member, dropOut, candidate, replace, breach. */
public final class DrawTest {
    private static final Check CHECK = new Check("DrawTest");

    public static void main(String[] args) {
        panelOfTheNumberIsDrawn();
        drawRefuses();
        memberRefuses();
        dropOutEmptiesAPlace();
        dropOutRefuses();
        candidatesAreThoseOfLeastBreach();
        candidateRefuses();
        candidatesNeverComeBack();
        replaceTakesTheCandidateOfTheNumber();
        replaceRefuses();
        newcomersMayDropOutToo();
        breachCountsBelowAndAbove();
        breachRefuses();
        questionsWhenDrawn();
        CHECK.finish();
    }

    /** Panel 7 of 15, with the persons 1 and 4, is drawn; the other four could come. */
    private static PanelOffice alikeDrawn() {
        PanelOffice x = Offices.alike(6, 2);
        Offices.drawWith(x, 15, 8);
        return x;
    }

    private static void panelOfTheNumberIsDrawn() {
        PanelOffice x = Offices.small();
        int[] due = {x.panel(13, 0), x.panel(13, 1), x.panel(13, 2)};
        Offices.drawWith(x, 6, 3, 2);
        for (int i = 0; i < 3; i++) {
            int place = i;
            CHECK.is("member(" + i + ")", due[i], () -> x.member(place));
        }
        CHECK.missing("the number is used", x::number);
        CHECK.state("no throws are left", () -> x.roll(1));
        CHECK.is("no place is empty", -1, () -> x.candidate(0));
        CHECK.is("no breach", 0, x::breach);
        PanelOffice y = alikeDrawn();
        CHECK.is("member(0) of number 7", 1, () -> y.member(0));
        CHECK.is("member(1) of number 7", 4, () -> y.member(1));
    }

    private static void drawRefuses() {
        PanelOffice x = Offices.small();
        CHECK.state("no throws", x::draw);
        x.dice(6);
        x.roll(1);
        CHECK.state("throws not at their end", x::draw);
        CHECK.is("throws go on", 1, () -> x.roll(1));
        CHECK.works("draw()", x::draw);
        CHECK.state("drawn already", x::draw);
        PanelOffice y = alikeDrawn();
        y.dropOut(1);
        y.dice(4);
        y.roll(1);
        CHECK.is("a number for the empty place", 0, y::number);
        CHECK.state("not open, though there is a number", y::draw);
        CHECK.is("the number stays", 0, y::number);
    }

    private static void memberRefuses() {
        PanelOffice x = Offices.small();
        CHECK.state("open", () -> x.member(0));
        CHECK.state("open, wrong place", () -> x.member(-1));
        Offices.drawWith(x, 6, 3, 2);
        CHECK.argument("member(-1)", () -> x.member(-1));
        CHECK.argument("member(3)", () -> x.member(3));
        CHECK.argument("member(8)", () -> x.member(8));
    }

    private static void dropOutEmptiesAPlace() {
        PanelOffice x = alikeDrawn();
        CHECK.works("dropOut(1)", () -> x.dropOut(1));
        CHECK.is("its place", -1, () -> x.member(0));
        CHECK.is("the other place", 4, () -> x.member(1));
        CHECK.is("first candidate", 0, () -> x.candidate(0));
    }

    private static void dropOutRefuses() {
        PanelOffice open = Offices.small();
        CHECK.state("open", () -> open.dropOut(0));
        PanelOffice x = alikeDrawn();
        CHECK.missing("no member", () -> x.dropOut(0));
        CHECK.missing("no person", () -> x.dropOut(6));
        CHECK.missing("-1", () -> x.dropOut(-1));
        CHECK.missing("a person's number and 64", () -> x.dropOut(65));
        x.dropOut(1);
        CHECK.state("a place is empty", () -> x.dropOut(4));
        CHECK.state("a place is empty, no member", () -> x.dropOut(1));
        CHECK.state("a place is empty, -1", () -> x.dropOut(-1));
        CHECK.is("still a member", 4, () -> x.member(1));
    }

    /** Members 4, 3, 1, 5; without 1, person 2 breaks one quota and person 0 two. */
    private static PanelOffice tight() {
        PanelOffice x = new PanelOffice();
        x.trait(0, 2);
        x.trait(1, 3);
        x.trait(2, 2);
        x.person(0, 0, 0);
        x.person(1, 1, 0);
        x.person(0, 2, 0);
        x.person(1, 0, 0);
        x.person(0, 1, 1);
        x.person(1, 2, 1);
        x.size(4);
        x.quota(0, 0, 0, 1);
        x.quota(0, 1, 0, 3);
        x.quota(1, 0, 1, 1);
        Offices.drawWith(x, 20, 20);
        return x;
    }

    private static void candidatesAreThoseOfLeastBreach() {
        PanelOffice x = tight();
        CHECK.is("no place is empty", -1, () -> x.candidate(0));
        x.dropOut(1);
        CHECK.is("candidate(0)", 2, () -> x.candidate(0));
        CHECK.is("candidate(1)", -1, () -> x.candidate(1));
        CHECK.is("breach() with an empty place", 0, x::breach);
        PanelOffice y = alikeDrawn();
        y.dropOut(4);
        int[] due = {0, 2, 3, 5, -1};
        for (int i = 0; i < due.length; i++) {
            int at = i;
            CHECK.is("candidate(" + i + ")", due[i], () -> y.candidate(at));
        }
        CHECK.is("candidate(most int)", -1, () -> y.candidate(Integer.MAX_VALUE));
        CHECK.is("so many throws", 2, () -> y.dice(3));
    }

    private static void candidateRefuses() {
        PanelOffice x = Offices.small();
        CHECK.argument("candidate(-1), open", () -> x.candidate(-1));
        CHECK.is("candidate(0), open", -1, () -> x.candidate(0));
        Offices.drawWith(x, 6, 3, 2);
        CHECK.argument("candidate(-1), drawn", () -> x.candidate(-1));
        x.dropOut(x.member(1));
        CHECK.argument("candidate(-1), a place is empty", () -> x.candidate(-1));
    }

    private static void candidatesNeverComeBack() {
        PanelOffice x = Offices.alike(3, 1);
        Offices.drawWith(x, 3, 2);
        x.dropOut(1);
        CHECK.is("candidate(0)", 0, () -> x.candidate(0));
        CHECK.is("candidate(1)", 2, () -> x.candidate(1));
        x.dice(2);
        x.roll(1);
        x.replace();
        x.dropOut(0);
        CHECK.is("only one is left", 2, () -> x.candidate(0));
        CHECK.is("only one is left", -1, () -> x.candidate(1));
        CHECK.is("no throw for it", 0, () -> x.dice(2));
        CHECK.is("replace()", 2, x::replace);
        x.dropOut(2);
        CHECK.is("none is left", -1, () -> x.candidate(0));
        CHECK.state("no goal", () -> x.dice(2));
        CHECK.state("no number", x::replace);
        CHECK.is("the place stays empty", -1, () -> x.member(0));
    }

    private static void replaceTakesTheCandidateOfTheNumber() {
        PanelOffice x = alikeDrawn();
        x.dropOut(1);
        x.dice(4);
        x.roll(4);
        CHECK.is("replace()", 5, x::replace);
        CHECK.is("the place of the one who left", 5, () -> x.member(0));
        CHECK.is("the other place", 4, () -> x.member(1));
        CHECK.is("no place is empty", -1, () -> x.candidate(0));
        CHECK.missing("the number is used", x::number);
        CHECK.state("no throws are left", () -> x.roll(1));
        CHECK.state("no place is empty", () -> x.dice(2));
        PanelOffice y = tight();
        y.dropOut(1);
        y.dice(3);
        CHECK.is("the only candidate", 2, y::replace);
        CHECK.is("its place", 2, () -> y.member(2));
        CHECK.is("its breach", 1, y::breach);
    }

    private static void replaceRefuses() {
        PanelOffice x = Offices.small();
        CHECK.state("open", x::replace);
        x.dice(6);
        x.roll(3);
        x.roll(2);
        CHECK.state("open, with a number", x::replace);
        x.draw();
        CHECK.state("no place is empty", x::replace);
        x.dropOut(x.member(0));
        CHECK.state("no number", x::replace);
        CHECK.is("dice(4)", 1, () -> x.dice(4));
        CHECK.state("no number yet", x::replace);
        CHECK.is("throws go on", 1, () -> x.roll(1));
        CHECK.works("replace()", x::replace);
    }

    private static void newcomersMayDropOutToo() {
        PanelOffice x = alikeDrawn();
        x.dropOut(4);
        x.dice(4);
        x.roll(2);
        CHECK.is("replace()", 2, x::replace);
        CHECK.missing("who left is no member", () -> x.dropOut(4));
        CHECK.works("the newcomer drops out", () -> x.dropOut(2));
        int[] due = {0, 3, 5, -1};
        for (int i = 0; i < due.length; i++) {
            int at = i;
            CHECK.is("candidate(" + i + ")", due[i], () -> x.candidate(at));
        }
    }

    private static void breachCountsBelowAndAbove() {
        PanelOffice x = new PanelOffice();
        x.trait(0, 3);
        x.trait(2, 2);
        x.person(0, 0, 0);
        x.person(0, 0, 0);
        x.person(1, 0, 1);
        x.person(2, 0, 1);
        x.size(2);
        x.quota(0, 0, 2, 8);
        x.quota(0, 1, 0, 0);
        x.quota(2, 1, 0, 0);
        x.quota(1, 0, 2, 2);
        x.dice(2);
        x.draw();
        CHECK.is("no breach", 0, x::breach);
        x.dropOut(0);
        CHECK.is("below two leasts", 2, x::breach);
        CHECK.is("candidate(0)", 3, () -> x.candidate(0));
        CHECK.is("candidate(1)", -1, () -> x.candidate(1));
        x.dice(2);
        x.replace();
        CHECK.is("below one, above one", 2, x::breach);
        x.dropOut(1);
        CHECK.is("below by 2 and 1, above by 1", 4, x::breach);
        x.dice(2);
        CHECK.is("who is left", 2, x::replace);
        CHECK.is("below by 2, above by 1 and 2", 5, x::breach);
        CHECK.is("in the place of the second", 2, () -> x.member(1));
        CHECK.is("the first place", 3, () -> x.member(0));
    }

    private static void breachRefuses() {
        PanelOffice x = Offices.small();
        CHECK.state("open", x::breach);
        x.dice(6);
        x.roll(3);
        x.roll(2);
        CHECK.state("open, with a number", x::breach);
        x.draw();
        CHECK.is("drawn", 0, x::breach);
    }

    private static void questionsWhenDrawn() {
        PanelOffice x = Offices.small();
        Offices.drawWith(x, 6, 3, 2);
        x.dropOut(2);
        CHECK.is("count()", 27, x::count);
        CHECK.is("states()", 60, x::states);
        CHECK.is("chance(2)", 10, () -> x.chance(2));
        CHECK.is("kind(-1)", 5, () -> x.kind(-1));
        CHECK.is("blocked(0)", -1, () -> x.blocked(0));
        CHECK.is("panel(13, 0)", 2, () -> x.panel(13, 0));
    }
}
