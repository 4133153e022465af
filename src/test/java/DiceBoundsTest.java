/** Each sentence of the promises 14 to 16 that names a bound or a refused call, from both its sides. */
public final class DiceBoundsTest {
    private static final Check CHECK = new Check("DiceBoundsTest");

    public static void main(String[] args) {
        CHECK.run(DiceBoundsTest::throwsBeginAnew);
        CHECK.run(DiceBoundsTest::howManyThrows);
        CHECK.run(DiceBoundsTest::numberAtOnce);
        CHECK.run(DiceBoundsTest::noSuchSides);
        CHECK.run(DiceBoundsTest::diceAreRefused);
        CHECK.run(DiceBoundsTest::goalIsZero);
        CHECK.run(DiceBoundsTest::drawnAndNoPlaceEmpty);
        CHECK.run(DiceBoundsTest::answersOfAThrow);
        CHECK.run(DiceBoundsTest::noneWereBegun);
        CHECK.run(DiceBoundsTest::numberIsThere);
        CHECK.run(DiceBoundsTest::noSuchSide);
        CHECK.run(DiceBoundsTest::numberThatWasMade);
        CHECK.run(DiceBoundsTest::numberIsNotThere);
        CHECK.finish();
    }

    private static void throwsBeginAnew() {
        CHECK.sentence("Promise 14: Throws begin (anew) with dice of so many sides");
        PanelOffice x = Offices.small();
        CHECK.state("not begun", () -> x.roll(1));
        x.dice(6);
        CHECK.is("the first of two", 0, () -> x.roll(5));
        x.dice(6);
        CHECK.is("the first of two, anew", 0, () -> x.roll(1));
        CHECK.is("the second of two", 1, () -> x.roll(2));
        CHECK.is("only the new throws count", 1, x::number);
        x.dice(20);
        CHECK.missing("the number is gone", x::number);
        CHECK.is("a side that the old dice had not", 0, () -> x.roll(20));
        x.dice(3);
        CHECK.argument("a side that the new dice have not", () -> x.roll(4));
    }

    private static void howManyThrows() {
        CHECK.sentence("Promise 14: how many throws it takes");
        PanelOffice x = Offices.alike(16, 1);
        CHECK.is("16 by 16", 1, () -> x.dice(16));
        CHECK.is("16 by 15", 2, () -> x.dice(15));
        CHECK.is("16 by 4", 2, () -> x.dice(4));
        CHECK.is("16 by 3", 3, () -> x.dice(3));
        CHECK.is("16 by 2", 4, () -> x.dice(2));
        x.person(0, 0, 0);
        CHECK.is("17 by 17", 1, () -> x.dice(17));
        CHECK.is("17 by 16", 2, () -> x.dice(16));
        CHECK.is("17 by 4", 3, () -> x.dice(4));
        CHECK.is("17 by 2", 5, () -> x.dice(2));
    }

    private static void numberAtOnce() {
        CHECK.sentence("Promise 14: (With a goal of 1 none: the number is 0 at once.)");
        PanelOffice one = Offices.alike(3, 3);
        for (int sides : new int[] {2, 20}) {
            CHECK.is("goal 1, dice(" + sides + ")", 0, () -> one.dice(sides));
            CHECK.is("goal 1, the number", 0, one::number);
            CHECK.state("goal 1, no throw is due", () -> one.roll(1));
        }
        CHECK.works("it can be drawn", one::draw);
        PanelOffice two = Offices.alike(2, 1);
        for (int sides : new int[] {2, 20}) {
            CHECK.is("goal 2, dice(" + sides + ")", 1, () -> two.dice(sides));
            CHECK.missing("goal 2, no number yet", two::number);
        }
        Offices.drawWith(two, 2, 1);
        two.dropOut(0);
        CHECK.is("one candidate", 0, () -> two.dice(2));
        CHECK.is("one candidate, the number", 0, two::number);
    }

    private static void noSuchSides() {
        CHECK.sentence("Promise 14: IllegalArgumentException if it is not 2 .. 20");
        PanelOffice x = Offices.small();
        CHECK.argument("dice(1)", () -> x.dice(1));
        CHECK.is("dice(2)", 5, () -> x.dice(2));
        CHECK.is("dice(20)", 2, () -> x.dice(20));
        CHECK.argument("dice(21)", () -> x.dice(21));
        CHECK.argument("a goal of 0", () -> new PanelOffice().dice(1));
        CHECK.argument("refused", () -> Offices.thousandAndOneStates().dice(21));
        Offices.drawWith(x, 6, 1, 1);
        CHECK.argument("drawn, no place is empty", () -> x.dice(1));
    }

    private static void diceAreRefused() {
        CHECK.sentence("Promise 14: UnsupportedOperationException if counting is refused");
        PanelOffice x = Offices.thousandStates();
        CHECK.is("1000 states", 17, () -> x.dice(2));
        x.person(1, 2, 0);
        CHECK.refused("1001 states", () -> x.dice(2));
        CHECK.state("nothing has begun", () -> x.roll(1));
        x.quota(0, 0, 8, 8);
        CHECK.refused("1001 states, and no panel", () -> x.dice(2));
        x.size(1);
        CHECK.state("no panel", () -> x.dice(2));
    }

    private static void goalIsZero() {
        CHECK.sentence("Promise 14: IllegalStateException if the goal is 0");
        PanelOffice x = Offices.alike(1, 2);
        CHECK.state("no person", () -> new PanelOffice().dice(2));
        CHECK.state("no panel", () -> x.dice(2));
        CHECK.state("nothing has begun", () -> x.roll(1));
        CHECK.missing("no number", x::number);
        x.person(0, 0, 0);
        CHECK.is("one panel", 0, () -> x.dice(2));
        x.draw();
        x.dropOut(0);
        CHECK.state("no candidate", () -> x.dice(2));
        CHECK.missing("no number", x::number);
        PanelOffice y = Offices.alike(3, 2);
        Offices.drawWith(y, 3, 1);
        y.dropOut(0);
        CHECK.is("one candidate", 0, () -> y.dice(2));
    }

    private static void drawnAndNoPlaceEmpty() {
        CHECK.sentence("Promise 14: or it is DRAWN and no place is empty");
        PanelOffice x = Offices.alike(4, 2);
        CHECK.is("open", 1, () -> x.dice(6));
        x.roll(1);
        x.draw();
        CHECK.state("drawn", () -> x.dice(6));
        CHECK.state("nothing has begun", () -> x.roll(1));
        x.dropOut(0);
        CHECK.is("a place is empty", 1, () -> x.dice(6));
        x.roll(1);
        x.replace();
        CHECK.state("no place is empty", () -> x.dice(6));
        x.dropOut(1);
        CHECK.is("another place is empty", 0, () -> x.dice(6));
    }

    private static void answersOfAThrow() {
        CHECK.sentence("Promise 15: 0 if more are needed, 1 if the number is there, 2 if all are thrown again");
        PanelOffice x = Offices.alike(7, 1);
        x.dice(2);
        CHECK.is("one of three", 0, () -> x.roll(2));
        CHECK.is("two of three", 0, () -> x.roll(2));
        CHECK.is("three of three: 7", 2, () -> x.roll(2));
        CHECK.is("one of three", 0, () -> x.roll(2));
        CHECK.is("two of three", 0, () -> x.roll(2));
        CHECK.is("three of three: 6", 1, () -> x.roll(1));
        x.dice(20);
        CHECK.is("one of one: 14", 2, () -> x.roll(15));
        CHECK.is("one of one: 19", 2, () -> x.roll(20));
        CHECK.is("one of one: 13", 1, () -> x.roll(14));
    }

    private static void noneWereBegun() {
        CHECK.sentence("Promise 15: IllegalStateException if none were begun");
        PanelOffice x = Offices.alike(3, 1);
        CHECK.state("none", () -> x.roll(1));
        CHECK.state("none, and no such side", () -> x.roll(0));
        CHECK.argument("wrong dice", () -> x.dice(1));
        CHECK.state("none after wrong dice", () -> x.roll(1));
        x.dice(3);
        CHECK.is("begun", 1, () -> x.roll(1));
        x.draw();
        CHECK.state("none after a draw", () -> x.roll(1));
        x.dropOut(0);
        CHECK.state("none after one dropped out", () -> x.roll(1));
        x.dice(2);
        CHECK.is("begun for the place", 1, () -> x.roll(1));
        x.replace();
        CHECK.state("none after one came", () -> x.roll(1));
        x.reset();
        CHECK.state("none after reset", () -> x.roll(1));
    }

    private static void numberIsThere() {
        CHECK.sentence("Promise 15: or the number is there");
        PanelOffice x = Offices.alike(3, 1);
        x.dice(2);
        CHECK.is("not yet", 0, () -> x.roll(2));
        CHECK.is("again", 2, () -> x.roll(2));
        CHECK.is("not yet", 0, () -> x.roll(1));
        CHECK.is("now", 1, () -> x.roll(2));
        CHECK.state("one more", () -> x.roll(1));
        CHECK.state("no such side is looked at last", () -> x.roll(3));
        CHECK.is("the number stays", 1, x::number);
    }

    private static void noSuchSide() {
        CHECK.sentence("Promise 15: IllegalArgumentException if the dice have no such side (1 .. sides)");
        PanelOffice x = Offices.alike(40, 1);
        for (int sides = 2; sides <= 20; sides++) {
            int n = sides;
            x.dice(n);
            CHECK.argument(n + " sides: 0", () -> x.roll(0));
            CHECK.argument(n + " sides: one too high", () -> x.roll(n + 1));
            CHECK.is(n + " sides: 1", 0, () -> x.roll(1));
            x.dice(n);
            CHECK.is(n + " sides: the highest", 0, () -> x.roll(n));
        }
        x.dice(7);
        x.roll(2);
        CHECK.argument("-1", () -> x.roll(-1));
        CHECK.argument("the lowest", () -> x.roll(Integer.MIN_VALUE));
        CHECK.argument("the highest", () -> x.roll(Integer.MAX_VALUE));
        CHECK.is("what was thrown before stays", 1, () -> x.roll(3));
        CHECK.is("its number", 9, x::number);
    }

    private static void numberThatWasMade() {
        CHECK.sentence("Promise 16: The number that was made");
        PanelOffice x = Offices.alike(6, 1);
        for (int side = 1; side <= 6; side++) {
            x.dice(6);
            x.roll(side);
            CHECK.is("side " + side, side - 1, x::number);
            CHECK.is("asked again", side - 1, x::number);
        }
    }

    private static void numberIsNotThere() {
        CHECK.sentence("Promise 16: NoSuchElementException if it is not there");
        PanelOffice x = Offices.alike(3, 1);
        CHECK.missing("none begun", x::number);
        x.dice(2);
        CHECK.missing("begun", x::number);
        x.roll(2);
        CHECK.missing("more are needed", x::number);
        x.roll(2);
        CHECK.missing("all are thrown again", x::number);
        x.roll(1);
        x.roll(1);
        CHECK.is("there", 0, x::number);
        x.draw();
        CHECK.missing("used", x::number);
        x.dropOut(0);
        CHECK.missing("a place is empty", x::number);
        x.dice(2);
        CHECK.missing("begun for the place", x::number);
        x.roll(2);
        CHECK.is("there for the place", 1, x::number);
        x.replace();
        CHECK.missing("used for the place", x::number);
    }
}
