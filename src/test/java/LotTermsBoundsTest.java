/** Each sentence of the section "Terms" on blocked quotas, dice and the draw, from both sides of its bound. */
public final class LotTermsBoundsTest {
    private static final Check CHECK = new Check("LotTermsBoundsTest");
    private static final long EIGHT_OF_FORTY = 76904685;

    public static void main(String[] args) {
        CHECK.run(LotTermsBoundsTest::blockedIfThereIsNoPanel);
        CHECK.run(LotTermsBoundsTest::blockedByTraitThenValue);
        CHECK.run(LotTermsBoundsTest::blockedAreNotZeroAndEight);
        CHECK.run(LotTermsBoundsTest::leftOutIfNoPanelWithoutIt);
        CHECK.run(LotTermsBoundsTest::leftOutWithThoseSoFar);
        CHECK.run(LotTermsBoundsTest::thoseNotLeftOut);
        CHECK.run(LotTermsBoundsTest::twoToTwentySides);
        CHECK.run(LotTermsBoundsTest::fewestThrows);
        CHECK.run(LotTermsBoundsTest::digitsFirstHighest);
        CHECK.run(LotTermsBoundsTest::eachThrowLessOne);
        CHECK.run(LotTermsBoundsTest::allThrownAgain);
        CHECK.run(LotTermsBoundsTest::allOfThemAreThrownAgain);
        CHECK.run(LotTermsBoundsTest::restByTheGoal);
        CHECK.run(LotTermsBoundsTest::noThrowForAGoalOfOne);
        CHECK.run(LotTermsBoundsTest::goalWhileOpen);
        CHECK.run(LotTermsBoundsTest::panelWithTheNumber);
        CHECK.run(LotTermsBoundsTest::nothingMayBeChanged);
        CHECK.run(LotTermsBoundsTest::dropOutThen);
        CHECK.run(LotTermsBoundsTest::goalWhileAPlaceIsEmpty);
        CHECK.run(LotTermsBoundsTest::justOneAtATime);
        CHECK.run(LotTermsBoundsTest::notMembersAndNotDroppedOut);
        CHECK.run(LotTermsBoundsTest::breachIsLeast);
        CHECK.run(LotTermsBoundsTest::upwardByNumber);
        CHECK.run(LotTermsBoundsTest::belowLeastOrAboveMost);
        CHECK.run(LotTermsBoundsTest::allTogether);
        CHECK.finish();
    }

    private static void blockedIfThereIsNoPanel() {
        CHECK.sentence("BLOCKED quotas, if there is no panel");
        PanelOffice x = Offices.byValue(2, 2, 1);
        x.quota(0, 1, 0, 0);
        CHECK.is("just one panel", 1, x::count);
        CHECK.blockedAre(x);
        x.quota(0, 0, 0, 1);
        CHECK.is("no panel", 0, x::count);
        CHECK.blockedAre(x, 0, 1);
    }

    private static void blockedByTraitThenValue() {
        CHECK.sentence("all quotas in order (by trait, then value)");
        PanelOffice x = Offices.withCodes(new int[] {4, 4, 4}, 3, "000", "111", "222", "333");
        x.quota(2, 3, 0, 0);
        x.quota(1, 0, 0, 0);
        CHECK.blockedAre(x, 10, 23);
        x.quota(2, 0, 0, 0);
        CHECK.blockedAre(x, 20, 23);
        x.quota(1, 0, 0, 8);
        x.quota(0, 3, 0, 0);
        CHECK.blockedAre(x, 20, 23);
        x.quota(2, 3, 0, 8);
        CHECK.blockedAre(x, 3, 20);
        x.quota(0, 0, 0, 0);
        CHECK.blockedAre(x, 3, 20);
        x.quota(2, 0, 0, 8);
        CHECK.blockedAre(x, 0, 3);
    }

    private static void blockedAreNotZeroAndEight() {
        CHECK.sentence("that are not 0 and 8");
        PanelOffice most = Offices.byValue(8, 8);
        most.quota(0, 0, 0, 7);
        CHECK.blockedAre(most, 0);
        most.quota(0, 0, 0, 8);
        CHECK.blockedAre(most);
        PanelOffice least = Offices.byValue(8, 8);
        least.quota(0, 3, 1, 8);
        CHECK.blockedAre(least, 3);
        least.quota(0, 3, 0, 8);
        CHECK.blockedAre(least);
        PanelOffice both = Offices.byValue(8, 8);
        both.quota(0, 0, 8, 8);
        both.quota(0, 1, 1, 8);
        both.quota(0, 2, 0, 8);
        CHECK.blockedAre(both, 1);
    }

    private static void leftOutIfNoPanelWithoutIt() {
        CHECK.sentence("one after the other is left out (it is 0 and 8 then) if there is no panel without it, either");
        PanelOffice x = Offices.byValue(4, 3, 3);
        x.quota(0, 0, 0, 1);
        x.quota(0, 1, 0, 2);
        CHECK.blockedAre(x, 0, 1);
        x.quota(0, 1, 0, 0);
        CHECK.blockedAre(x, 1);
        x.quota(0, 1, 0, 1);
        CHECK.blockedAre(x, 0, 1);
        PanelOffice few = Offices.byValue(4, 2, 1);
        few.quota(0, 0, 0, 1);
        few.quota(0, 1, 1, 1);
        CHECK.blockedAre(few);
        few.person(1, 0, 0);
        CHECK.blockedAre(few, 1);
    }

    private static void leftOutWithThoseSoFar() {
        CHECK.sentence("and those left out so far");
        PanelOffice x = Offices.byValue(2, 2, 2);
        x.quota(0, 0, 3, 3);
        x.quota(0, 1, 3, 3);
        CHECK.blockedAre(x, 1);
        x.quota(1, 0, 0, 1);
        CHECK.blockedAre(x, 10);
        x.quota(2, 0, 0, 1);
        CHECK.blockedAre(x, 20);
        x.quota(2, 0, 0, 2);
        CHECK.blockedAre(x, 10);
    }

    private static void thoseNotLeftOut() {
        CHECK.sentence("those that are not left out then");
        PanelOffice x = Offices.byValue(4, 2, 2, 2, 2);
        for (int v = 0; v < 4; v++) {
            x.quota(0, v, 0, 1);
        }
        CHECK.blockedAre(x);
        x.quota(0, 3, 0, 0);
        CHECK.blockedAre(x, 0, 1, 2, 3);
        x.quota(0, 0, 0, 8);
        x.size(5);
        CHECK.blockedAre(x, 1, 2, 3);
        x.quota(0, 0, 0, 1);
        x.size(4);
        CHECK.blockedAre(x, 0, 1, 2, 3);
        x.quota(0, 2, 0, 0);
        CHECK.blockedAre(x, 1, 2, 3);
        x.size(6);
        CHECK.blockedAre(x, 2, 3);
        x.size(7);
        CHECK.blockedAre(x, 3);
    }

    private static void twoToTwentySides() {
        CHECK.sentence("DICE of 2 .. 20 SIDES");
        PanelOffice x = Offices.alike(2, 1);
        for (int sides = 2; sides <= 20; sides++) {
            int n = sides;
            CHECK.is("dice(" + n + ")", 1, () -> x.dice(n));
        }
        for (int sides : new int[] {Integer.MIN_VALUE, -2, 0, 1, 21, 22, Integer.MAX_VALUE}) {
            CHECK.argument("dice(" + sides + ")", () -> x.dice(sides));
        }
    }

    private static void fewestThrows() {
        CHECK.sentence("so many throws, the fewest, that the number of their outcomes is not below the goal");
        for (int sides = 2; sides <= 20; sides++) {
            int needed = 1;
            for (int outcomes = sides; outcomes < 40; outcomes *= sides) {
                throwsAre(needed, Offices.alike(outcomes, 1), sides);
                needed++;
                throwsAre(needed, Offices.alike(outcomes + 1, 1), sides);
            }
        }
        PanelOffice x = Offices.byValue(2, 20, 20);
        x.quota(0, 0, 1, 1);
        throwsAre(2, x, 20);
        throwsAre(3, x, 19);
        throwsAre(27, Offices.alike(40, 8), 2);
        throwsAre(7, Offices.alike(40, 8), 20);
    }

    private static void throwsAre(int due, PanelOffice x, int sides) {
        CHECK.is("goal " + x.count() + ", dice(" + sides + ")", due, () -> x.dice(sides));
    }

    /** Throws that make this value before the rest is taken: what the last of them answers. */
    private static int throwValue(PanelOffice x, int sides, long value) {
        int needed = x.dice(sides);
        int answer = -1;
        for (int place = needed - 1; place >= 0; place--) {
            long digit = value;
            for (int n = 0; n < place; n++) {
                digit /= sides;
            }
            answer = x.roll((int) (digit % sides) + 1);
        }
        return answer;
    }

    private static void digitsFirstHighest() {
        CHECK.sentence("these are digits, each throw less 1, the first the highest");
        int[][] thrown = {{1, 1, 2}, {1, 2, 1}, {2, 1, 1}, {2, 3, 4}, {1, 1, 1}};
        int[] due = {1, 4, 16, 27, 0};
        PanelOffice x = Offices.alike(40, 1);
        for (int n = 0; n < due.length; n++) {
            x.dice(4);
            for (int side : thrown[n]) {
                x.roll(side);
            }
            CHECK.is("throws of row " + n, due[n], x::number);
        }
    }

    private static void eachThrowLessOne() {
        CHECK.sentence("each throw less 1");
        PanelOffice x = Offices.alike(20, 1);
        x.dice(20);
        x.roll(1);
        CHECK.is("the lowest side", 0, x::number);
        x.dice(20);
        x.roll(20);
        CHECK.is("the highest side", 19, x::number);
    }

    private static void allThrownAgain() {
        CHECK.sentence("if the greatest multiple of the goal that is not above the number of outcomes is not above what they make");
        for (int sides = 2; sides <= 20; sides++) {
            for (int goal = 2; goal <= 40; goal++) {
                againFrom(Offices.alike(goal, 1), sides, goal);
            }
        }
        againFrom(Offices.alike(40, 8), 2, EIGHT_OF_FORTY);
        againFrom(Offices.alike(40, 8), 3, EIGHT_OF_FORTY);
        againFrom(Offices.alike(40, 8), 20, EIGHT_OF_FORTY);
    }

    private static void againFrom(PanelOffice x, int sides, long goal) {
        long outcomes = 1;
        while (outcomes < goal) {
            outcomes *= sides;
        }
        long multiple = outcomes / goal * goal;
        String what = "goal " + goal + ", " + sides + " sides, value ";
        CHECK.is(what + (multiple - 1), 1, () -> throwValue(x, sides, multiple - 1));
        CHECK.is(what + (multiple - 1) + ", its number", goal - 1, x::number);
        if (multiple < outcomes) {
            long last = outcomes - 1;
            CHECK.is(what + multiple, 2, () -> throwValue(x, sides, multiple));
            CHECK.missing(what + multiple + ", its number", x::number);
            CHECK.is(what + last, 2, () -> throwValue(x, sides, last));
        }
    }

    private static void allOfThemAreThrownAgain() {
        CHECK.sentence("all of them are thrown again");
        PanelOffice x = Offices.alike(5, 1);
        CHECK.is("three throws", 3, () -> x.dice(2));
        CHECK.is("101 is 5", 2, () -> throwValue(x, 2, 5));
        CHECK.is("the first again", 0, () -> x.roll(1));
        CHECK.is("the second again", 0, () -> x.roll(2));
        CHECK.is("the third again", 1, () -> x.roll(1));
        CHECK.is("010 is 2", 2, x::number);
    }

    private static void restByTheGoal() {
        CHECK.sentence("else the number is the rest of it by the goal");
        PanelOffice x = Offices.alike(3, 1);
        for (int side = 1; side <= 9; side++) {
            x.dice(10);
            x.roll(side);
            CHECK.is("throw " + side, (side - 1) % 3, x::number);
        }
    }

    private static void noThrowForAGoalOfOne() {
        CHECK.sentence("(No throw is needed for a goal of 1.)");
        PanelOffice one = Offices.alike(8, 8);
        throwsAre(0, one, 2);
        CHECK.is("its number", 0, one::number);
        PanelOffice two = Offices.alike(2, 1);
        throwsAre(1, two, 20);
        CHECK.missing("no number yet", two::number);
    }

    private static void goalWhileOpen() {
        CHECK.sentence("while the pool is OPEN the goal is how many panels there are");
        PanelOffice x = Offices.alike(4, 2);
        throwsAre(1, x, 6);
        throwsAre(2, x, 5);
        x.person(0, 0, 0);
        throwsAre(1, x, 10);
        throwsAre(2, x, 9);
    }

    private static void panelWithTheNumber() {
        CHECK.sentence("the panel with the number is drawn");
        for (int number = 0; number < 27; number++) {
            PanelOffice told = Offices.small();
            PanelOffice x = Offices.small();
            CHECK.is("number " + number, 1, numberIs(x, number));
            x.draw();
            CHECK.membersAre(x, told.panel(number, 0), told.panel(number, 1), told.panel(number, 2));
        }
    }

    private static Check.Asked numberIs(PanelOffice x, int number) {
        return () -> throwValue(x, 6, number);
    }

    private static void nothingMayBeChanged() {
        CHECK.sentence("then it is DRAWN, and nothing that belongs to the pool may be changed any more");
        PanelOffice x = Offices.alike(2, 2);
        x.dice(6);
        CHECK.works("trait, with a number", () -> x.trait(1, 2));
        x.dice(6);
        CHECK.works("quota, with a number", () -> x.quota(0, 0, 0, 8));
        x.dice(6);
        CHECK.works("size, with a number", () -> x.size(3));
        CHECK.is("person, with no panel", 2, () -> x.person(0, 0, 0));
        x.dice(6);
        x.draw();
        CHECK.state("trait, drawn", () -> x.trait(1, 2));
        CHECK.state("quota, drawn", () -> x.quota(0, 0, 0, 8));
        CHECK.state("size, drawn", () -> x.size(3));
        CHECK.state("person, drawn", () -> x.person(0, 0, 0));
    }

    private static void dropOutThen() {
        CHECK.sentence("A member may DROP OUT then");
        PanelOffice x = Offices.alike(2, 2);
        CHECK.state("open", () -> x.dropOut(0));
        x.dice(6);
        CHECK.state("open, with a number", () -> x.dropOut(0));
        x.draw();
        CHECK.works("drawn", () -> x.dropOut(0));
    }

    /** Panel 7 of 15, with the persons 1 and 4, is drawn; the other four could come. */
    private static PanelOffice alikeDrawn() {
        PanelOffice x = Offices.alike(6, 2);
        Offices.drawWith(x, 15, 8);
        return x;
    }

    private static void goalWhileAPlaceIsEmpty() {
        CHECK.sentence("while one place is empty (just one at a time) the goal is how many CANDIDATES there are");
        PanelOffice x = alikeDrawn();
        CHECK.state("no place is empty", () -> x.dice(6));
        x.dropOut(1);
        CHECK.is("four by 4", 1, () -> x.dice(4));
        CHECK.is("four by 3", 2, () -> x.dice(3));
        CHECK.is("as many panels as before", 15, x::count);
        x.dice(4);
        x.roll(1);
        x.replace();
        CHECK.state("no place is empty again", () -> x.dice(6));
        x.dropOut(4);
        CHECK.is("three by 3", 1, () -> x.dice(3));
        CHECK.is("three by 2", 2, () -> x.dice(2));
    }

    private static void justOneAtATime() {
        CHECK.sentence("(just one at a time)");
        PanelOffice x = alikeDrawn();
        CHECK.works("the first", () -> x.dropOut(1));
        CHECK.state("a second at the same time", () -> x.dropOut(4));
        x.dice(4);
        x.roll(1);
        CHECK.state("a second, with a number", () -> x.dropOut(4));
        x.replace();
        CHECK.works("a second when someone has come", () -> x.dropOut(4));
        CHECK.membersAre(x, 0, -1);
    }

    private static void notMembersAndNotDroppedOut() {
        CHECK.sentence("persons that are not members and did not drop out");
        PanelOffice x = alikeDrawn();
        x.dropOut(1);
        CHECK.candidatesAre(x, 0, 2, 3, 5);
        x.dice(4);
        x.roll(2);
        CHECK.is("who comes", 2, x::replace);
        x.dropOut(2);
        CHECK.candidatesAre(x, 0, 3, 5);
        x.dice(3);
        x.roll(3);
        x.replace();
        x.dropOut(4);
        CHECK.candidatesAre(x, 0, 3);
    }

    private static void breachIsLeast() {
        CHECK.sentence("with whom the panel's BREACH is least");
        PanelOffice x = Offices.byValue(2, 2, 2, 2);
        x.quota(0, 0, 1, 1);
        x.quota(0, 1, 1, 1);
        Offices.drawWith(x, 4, 1);
        CHECK.membersAre(x, 0, 2);
        x.dropOut(0);
        CHECK.candidatesAre(x, 1);
        x.dice(2);
        x.replace();
        x.dropOut(1);
        CHECK.candidatesAre(x, 4, 5);
        x.dice(2);
        x.roll(2);
        x.replace();
        x.dropOut(5);
        CHECK.candidatesAre(x, 4);
        x.dice(2);
        x.replace();
        x.dropOut(4);
        CHECK.candidatesAre(x, 3);
    }

    private static void upwardByNumber() {
        CHECK.sentence("upward by number");
        PanelOffice x = Offices.withCodes(new int[] {3, 1, 1}, 1, "200", "000", "200", "100", "000");
        Offices.drawWith(x, 5, 3);
        CHECK.membersAre(x, 3);
        x.dropOut(3);
        CHECK.candidatesAre(x, 0, 1, 2, 4);
    }

    private static void belowLeastOrAboveMost() {
        CHECK.sentence("The breach is how far all values' numbers of members are below least or above most");
        PanelOffice least = Offices.byValue(3, 3, 1);
        least.quota(0, 0, 2, 3);
        Offices.drawWith(least, 4, 4);
        CHECK.membersAre(least, 0, 1, 2);
        CHECK.is("just most", 0, least::breach);
        least.dropOut(0);
        CHECK.is("just least", 0, least::breach);
        least.dice(2);
        least.replace();
        least.dropOut(1);
        CHECK.is("one below least", 1, least::breach);
        PanelOffice most = Offices.byValue(2, 3, 1);
        most.quota(0, 0, 0, 1);
        Offices.drawWith(most, 3, 1);
        CHECK.membersAre(most, 0, 3);
        CHECK.is("just most", 0, most::breach);
        most.dropOut(3);
        most.dice(2);
        most.roll(1);
        most.replace();
        CHECK.is("one above most", 1, most::breach);
        most.dropOut(0);
        CHECK.is("just most again", 0, most::breach);
    }

    private static void allTogether() {
        CHECK.sentence("all together");
        PanelOffice x = Offices.withCodes(new int[] {2, 2, 2}, 3, "000", "000", "000", "111");
        x.quota(0, 0, 3, 3);
        x.quota(1, 0, 2, 8);
        x.quota(2, 1, 0, 0);
        x.dice(2);
        x.draw();
        CHECK.is("none", 0, x::breach);
        x.dropOut(0);
        CHECK.is("1 below", 1, x::breach);
        x.dice(2);
        x.replace();
        CHECK.is("1 below, 1 above", 2, x::breach);
        x.dropOut(1);
        CHECK.is("2 and 1 below, 1 above", 4, x::breach);
    }
}
