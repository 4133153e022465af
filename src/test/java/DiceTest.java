/** Promises 14, 15 and 16: dice, roll, number. */
public final class DiceTest {
    private static final Check CHECK = new Check("DiceTest");

    public static void main(String[] args) {
        fewestThrows();
        diceRefuseWrongSides();
        noThrowForAGoalOfOne();
        noDiceWithoutAGoal();
        firstThrowIsHighest();
        allAreThrownAgain();
        everyNumberIsAsLikely();
        wrongSidesChangeNothing();
        rollRefusesWhenNoneIsDue();
        diceBeginAnew();
        questionsDoNotEndThrows();
        CHECK.finish();
    }

    private static void fewestThrows() {
        PanelOffice x = Offices.alike(36, 1);
        CHECK.is("36 with 6 sides", 2, () -> x.dice(6));
        CHECK.is("36 with 2 sides", 6, () -> x.dice(2));
        CHECK.is("36 with 20 sides", 2, () -> x.dice(20));
        CHECK.is("36 with 3 sides", 4, () -> x.dice(3));
        x.person(0, 0, 0);
        CHECK.is("37 with 6 sides", 3, () -> x.dice(6));
        PanelOffice y = Offices.alike(20, 1);
        CHECK.is("20 with 20 sides", 1, () -> y.dice(20));
        CHECK.is("20 with 19 sides", 2, () -> y.dice(19));
        PanelOffice z = Offices.alike(40, 8);
        CHECK.is("76904685 with 2 sides", 27, () -> z.dice(2));
        CHECK.is("76904685 with 20 sides", 7, () -> z.dice(20));
    }

    private static void diceRefuseWrongSides() {
        PanelOffice x = Offices.small();
        CHECK.argument("dice(1)", () -> x.dice(1));
        CHECK.argument("dice(0)", () -> x.dice(0));
        CHECK.argument("dice(-6)", () -> x.dice(-6));
        CHECK.argument("dice(21)", () -> x.dice(21));
        CHECK.works("dice(2)", () -> x.dice(2));
        CHECK.works("dice(20)", () -> x.dice(20));
        CHECK.argument("dice(1) without a goal", () -> new PanelOffice().dice(1));
        x.dice(6);
        x.roll(3);
        CHECK.argument("dice(1) with throws begun", () -> x.dice(1));
        CHECK.is("they go on", 1, () -> x.roll(2));
    }

    private static void noThrowForAGoalOfOne() {
        PanelOffice x = Offices.alike(3, 3);
        CHECK.is("dice(6)", 0, () -> x.dice(6));
        CHECK.is("number()", 0, x::number);
        CHECK.state("roll(1)", () -> x.roll(1));
        CHECK.state("roll(7)", () -> x.roll(7));
        CHECK.works("draw()", x::draw);
    }

    private static void noDiceWithoutAGoal() {
        PanelOffice x = Offices.alike(2, 3);
        CHECK.state("no panel", () -> x.dice(6));
        CHECK.state("none begun", () -> x.roll(1));
        CHECK.missing("no number", x::number);
        PanelOffice y = Offices.alike(3, 3);
        y.dice(6);
        y.draw();
        CHECK.state("drawn, no place empty", () -> y.dice(6));
        y.dropOut(1);
        CHECK.state("no candidate", () -> y.dice(6));
        CHECK.argument("dice(1) with no candidate", () -> y.dice(1));
    }

    private static void firstThrowIsHighest() {
        PanelOffice x = Offices.alike(40, 1);
        x.dice(4);
        CHECK.is("first", 0, () -> x.roll(2));
        CHECK.missing("not yet", x::number);
        CHECK.is("second", 0, () -> x.roll(3));
        CHECK.is("third", 1, () -> x.roll(4));
        CHECK.is("1 * 16 + 2 * 4 + 3", 27, x::number);
        PanelOffice z = Offices.alike(40, 8);
        z.dice(20);
        for (int side : new int[] {2, 20, 1, 7, 13, 5}) {
            CHECK.is("more are needed", 0, () -> z.roll(side));
        }
        CHECK.is("the last", 1, () -> z.roll(17));
        long made = ((((((1L * 20 + 19) * 20) * 20 + 6) * 20 + 12) * 20 + 4) * 20) + 16;
        CHECK.is("the rest by the goal", made % 76904685, z::number);
    }

    private static void allAreThrownAgain() {
        PanelOffice x = Offices.small();
        CHECK.is("27 with 6 sides", 2, () -> x.dice(6));
        CHECK.is("first", 0, () -> x.roll(5));
        CHECK.is("27 is not below 27", 2, () -> x.roll(4));
        CHECK.missing("no number", x::number);
        CHECK.is("first again", 0, () -> x.roll(6));
        CHECK.is("35", 2, () -> x.roll(6));
        CHECK.is("first again", 0, () -> x.roll(5));
        CHECK.is("26 is below 27", 1, () -> x.roll(3));
        CHECK.is("number()", 26, x::number);
        PanelOffice y = Offices.alike(4, 1);
        y.dice(2);
        y.roll(2);
        CHECK.is("no throw is lost where the goal divides", 1, () -> y.roll(2));
        CHECK.is("number()", 3, y::number);
        PanelOffice z = Offices.alike(3, 1);
        z.dice(10);
        CHECK.is("the greatest multiple is 9", 2, () -> z.roll(10));
        CHECK.is("8 is below it", 1, () -> z.roll(9));
        CHECK.is("the rest by 3", 2, z::number);
    }

    private static void everyNumberIsAsLikely() {
        PanelOffice x = Offices.alike(5, 1);
        int[] made = new int[5];
        int again = 0;
        for (int first = 1; first <= 4; first++) {
            for (int second = 1; second <= 4; second++) {
                x.dice(4);
                x.roll(first);
                if (x.roll(second) == 1) {
                    made[(int) x.number()]++;
                } else {
                    again++;
                }
            }
        }
        CHECK.same("numbers", "[3, 3, 3, 3, 3]", java.util.Arrays.toString(made));
        CHECK.same("thrown again", "1", String.valueOf(again));
    }

    private static void wrongSidesChangeNothing() {
        PanelOffice x = Offices.small();
        x.dice(6);
        CHECK.argument("roll(0)", () -> x.roll(0));
        CHECK.argument("roll(7)", () -> x.roll(7));
        CHECK.argument("roll(-1)", () -> x.roll(-1));
        CHECK.is("first", 0, () -> x.roll(1));
        CHECK.argument("roll(7)", () -> x.roll(7));
        CHECK.is("second", 1, () -> x.roll(6));
        CHECK.is("number()", 5, x::number);
    }

    private static void rollRefusesWhenNoneIsDue() {
        PanelOffice x = Offices.small();
        CHECK.state("none begun", () -> x.roll(1));
        CHECK.state("none begun, wrong side", () -> x.roll(0));
        x.dice(20);
        x.roll(1);
        x.roll(2);
        CHECK.state("the number is there", () -> x.roll(1));
        CHECK.state("the number is there, wrong side", () -> x.roll(21));
        CHECK.is("it stays", 1, x::number);
    }

    private static void diceBeginAnew() {
        PanelOffice x = Offices.small();
        x.dice(6);
        x.roll(4);
        CHECK.is("dice(3)", 3, () -> x.dice(3));
        CHECK.is("first", 0, () -> x.roll(1));
        CHECK.is("second", 0, () -> x.roll(1));
        CHECK.is("third", 1, () -> x.roll(3));
        CHECK.is("number()", 2, x::number);
        CHECK.is("dice(6)", 2, () -> x.dice(6));
        CHECK.missing("the number is gone", x::number);
        CHECK.state("nothing to draw", x::draw);
    }

    private static void questionsDoNotEndThrows() {
        PanelOffice x = Offices.small();
        x.dice(6);
        x.roll(3);
        x.count();
        x.states();
        x.chance(0);
        x.kind(-1);
        x.blocked(0);
        x.panel(3, 0);
        x.mark(3);
        CHECK.missing("rank()", x::rank);
        CHECK.is("candidate(0)", -1, () -> x.candidate(0));
        CHECK.is("throws go on", 1, () -> x.roll(2));
        x.mark(3);
        CHECK.is("the number stays", 13, x::number);
    }
}
