/** Promises 6, 7, 8 and 10: count, states, chance, blocked. */
public final class CountTest {
    private static final Check CHECK = new Check("CountTest");

    public static void main(String[] args) {
        countIsExact();
        countOfTheLargestPool();
        countFollowsChanges();
        statesBehindEachKind();
        statesUpToThousand();
        refusedBeyondThousand();
        refusalEnds();
        chanceOfEachPerson();
        chanceRefusesWrongPersons();
        blockedQuotasAreWhatIsLeft();
        blockedByTraitThenValue();
        blockedByNothing();
        blockedIsRefused();
        blockedLeavesAllAsItWas();
        CHECK.finish();
    }

    private static void countIsExact() {
        PanelOffice x = Offices.small();
        CHECK.is("count()", 27, x::count);
        CHECK.is("panels of more than there are", 0, Offices.alike(7, 8)::count);
        CHECK.is("the panel of all", 1, Offices.alike(8, 8)::count);
        PanelOffice y = Offices.withCodes(new int[] {2, 1, 2}, 2, "000", "001", "100", "101");
        y.quota(0, 0, 1, 1);
        CHECK.is("one of each value of trait 0", 4, y::count);
        y.quota(2, 0, 1, 1);
        CHECK.is("and of trait 2", 2, y::count);
    }

    private static void countOfTheLargestPool() {
        PanelOffice x = Offices.alike(40, 8);
        CHECK.is("8 of 40", 76904685, x::count);
        CHECK.is("states", 9, x::states);
        CHECK.is("chance", 15380937, () -> x.chance(39));
        PanelOffice y = new PanelOffice();
        y.trait(0, 2);
        for (int p = 0; p < 40; p++) {
            y.person(p % 2, 0, 0);
        }
        y.size(8);
        CHECK.is("8 of 40 of two kinds", 76904685, y::count);
        y.quota(0, 0, 4, 4);
        CHECK.is("4 of 20, twice", 4845L * 4845L, y::count);
        CHECK.is("chance", 969L * 4845L, () -> y.chance(0));
    }

    private static void countFollowsChanges() {
        PanelOffice x = Offices.small();
        CHECK.is("at first", 27, x::count);
        x.size(1);
        CHECK.is("with a new size", 4, x::count);
        x.person(0, 1, 1);
        CHECK.is("with a new person", 5, x::count);
        x.quota(1, 0, 0, 0);
        CHECK.is("with a new quota", 2, x::count);
        CHECK.is("states follow too", 1 + 2 + 3 + 3 + 4 + 5, x::states);
        CHECK.is("chances follow too", 0, () -> x.chance(0));
    }

    private static void statesBehindEachKind() {
        CHECK.is("the document's example", 60, Offices.small()::states);
        CHECK.is("one person", 2, Offices.alike(1, 8)::states);
        CHECK.is("a kind of 5, panels of 3", 4, Offices.alike(5, 3)::states);
        CHECK.is("a kind of 3, panels of 5", 4, Offices.alike(3, 5)::states);
        PanelOffice x = Offices.withCodes(new int[] {2, 1, 1}, 8, "000", "000", "100");
        CHECK.is("0 .. 2, then 0 .. 2 with 0 .. 1", 3 + 6, x::states);
        x.quota(0, 0, 0, 1);
        CHECK.is("a most makes them fewer", 2 + 4, x::states);
        x.quota(0, 0, 1, 1);
        CHECK.is("a least does not", 2 + 4, x::states);
        x.quota(0, 0, 0, 0);
        CHECK.is("a most of 0", 1 + 2, x::states);
        x.quota(0, 0, 0, 8);
        x.size(1);
        CHECK.is("panels of one", 2 + 3, x::states);
        PanelOffice same = Offices.withCodes(new int[] {2, 2, 1}, 8, "000", "010", "100", "110");
        CHECK.is("rows come to in two ways are one state", 2 + 4 + 8 + 15, same::states);
    }

    private static void statesUpToThousand() {
        PanelOffice x = Offices.thousandStates();
        CHECK.is("states()", 1000, x::states);
        CHECK.is("count()", 116280, x::count);
        CHECK.is("chance(0)", 38760, () -> x.chance(0));
        CHECK.works("panel(0, 0)", () -> x.panel(0, 0));
        CHECK.missing("rank()", x::rank);
        CHECK.works("dice(2)", () -> x.dice(2));
    }

    private static void refusedBeyondThousand() {
        PanelOffice x = Offices.thousandAndOneStates();
        CHECK.is("states()", -1, x::states);
        refusesAll(x);
        PanelOffice y = Offices.sixteenKinds();
        y.size(8);
        CHECK.is("states()", -1, y::states);
        refusesAll(y);
    }

    private static void refusesAll(PanelOffice x) {
        CHECK.refused("count()", x::count);
        CHECK.refused("chance(0)", () -> x.chance(0));
        CHECK.refused("blocked(0)", () -> x.blocked(0));
        CHECK.refused("panel(0, 0)", () -> x.panel(0, 0));
        CHECK.refused("panel(-1, 0): the rank is looked at last", () -> x.panel(-1, 0));
        CHECK.refused("rank(): that first", x::rank);
        CHECK.refused("dice(6)", () -> x.dice(6));
        CHECK.argument("chance(-1)", () -> x.chance(-1));
        CHECK.argument("blocked(-1)", () -> x.blocked(-1));
        CHECK.argument("panel(0, 8): i is looked at first", () -> x.panel(0, 8));
        CHECK.argument("dice(21)", () -> x.dice(21));
    }

    private static void refusalEnds() {
        PanelOffice x = Offices.thousandAndOneStates();
        CHECK.refused("count()", x::count);
        x.size(2);
        CHECK.is("with a smaller size", 136, x::count);
        x.size(8);
        CHECK.refused("and back", x::count);
        x.quota(0, 0, 0, 0);
        CHECK.is("with a quota", 1, x::count);
    }

    private static void chanceOfEachPerson() {
        PanelOffice x = Offices.small();
        long[] due = {10, 14, 10, 11, 12, 14, 10};
        for (int p = 0; p < due.length; p++) {
            int person = p;
            CHECK.is("chance(" + p + ")", due[p], () -> x.chance(person));
        }
        x.quota(1, 2, 0, 0);
        CHECK.is("chance(0) with a new quota", 3, () -> x.chance(0));
        CHECK.is("no one of value 2", 0, () -> x.chance(1));
        CHECK.is("no one of value 2", 0, () -> x.chance(4));
        x.size(8);
        CHECK.is("no panel at all", 0, () -> x.chance(0));
    }

    private static void chanceRefusesWrongPersons() {
        PanelOffice x = Offices.small();
        CHECK.argument("chance(-1)", () -> x.chance(-1));
        CHECK.argument("chance(7)", () -> x.chance(7));
        CHECK.argument("chance(least int)", () -> x.chance(Integer.MIN_VALUE));
    }

    private static void blockedQuotasAreWhatIsLeft() {
        PanelOffice x = Offices.withCodes(new int[] {2, 3, 2}, 4, "000", "110", "020", "100", "011", "121");
        x.quota(0, 0, 0, 1);
        x.quota(0, 1, 0, 2);
        x.quota(1, 0, 1, 1);
        CHECK.is("no panel", 0, x::count);
        CHECK.is("blocked(0)", 0, () -> x.blocked(0));
        CHECK.is("blocked(1)", 1, () -> x.blocked(1));
        CHECK.is("blocked(2)", -1, () -> x.blocked(2));
        CHECK.is("blocked(most int)", -1, () -> x.blocked(Integer.MAX_VALUE));
        CHECK.argument("blocked(-1)", () -> x.blocked(-1));
        x.quota(0, 1, 0, 3);
        CHECK.is("there is a panel", -1, () -> x.blocked(0));
        CHECK.argument("blocked(-1) with a panel", () -> x.blocked(-1));
    }

    private static void blockedByTraitThenValue() {
        PanelOffice x = Offices.withCodes(new int[] {2, 2, 4}, 2, "000", "111", "012", "103");
        x.quota(0, 0, 0, 0);
        x.quota(0, 1, 0, 0);
        x.quota(2, 3, 2, 2);
        CHECK.is("of two reasons the later is told", 23, () -> x.blocked(0));
        CHECK.is("and no other", -1, () -> x.blocked(1));
        x.quota(2, 3, 0, 8);
        x.quota(1, 1, 0, 1);
        CHECK.is("none of trait 0 at all: value 0", 0, () -> x.blocked(0));
        CHECK.is("and value 1", 1, () -> x.blocked(1));
        CHECK.is("not the quota that could be kept", -1, () -> x.blocked(2));
        x.quota(0, 0, 0, 8);
        x.quota(1, 1, 2, 2);
        CHECK.is("two traits: the one", 1, () -> x.blocked(0));
        CHECK.is("and the other", 11, () -> x.blocked(1));
        CHECK.is("no third", -1, () -> x.blocked(2));
    }

    private static void blockedByNothing() {
        PanelOffice only = Offices.withCodes(new int[] {2, 1, 1}, 2, "000", "000", "100");
        only.quota(0, 1, 0, 0);
        CHECK.is("one panel", 1, only::count);
        CHECK.is("one panel is enough", -1, () -> only.blocked(0));
        only.quota(0, 1, 0, 8);
        only.quota(0, 0, 0, 0);
        CHECK.is("a quota of 0 and 0", 0, () -> only.blocked(0));
        CHECK.is("a quota of 0 and 8 never blocks", -1, () -> only.blocked(1));
        PanelOffice x = Offices.alike(3, 4);
        CHECK.is("too few persons", -1, () -> x.blocked(0));
        x.quota(0, 0, 4, 4);
        x.quota(1, 0, 0, 3);
        CHECK.is("too few persons, whatever the quotas", -1, () -> x.blocked(0));
    }

    private static void blockedIsRefused() {
        PanelOffice x = Offices.sixteenKinds();
        x.size(8);
        for (int v = 0; v < 4; v++) {
            x.quota(0, v, 0, 0);
        }
        CHECK.is("few states with all quotas", 16, x::states);
        CHECK.is("no panel", 0, x::count);
        CHECK.refused("too many states with those left out", () -> x.blocked(0));
        CHECK.refused("again", () -> x.blocked(1));
        CHECK.argument("blocked(-1)", () -> x.blocked(-1));
        CHECK.is("still few states with all quotas", 16, x::states);
        x.size(1);
        for (int v = 0; v < 4; v++) {
            int i = v;
            CHECK.is("few states with one left out", v, () -> x.blocked(i));
        }
        CHECK.is("no fifth", -1, () -> x.blocked(4));
    }

    private static void blockedLeavesAllAsItWas() {
        PanelOffice x = Offices.small();
        x.quota(0, 1, 3, 3);
        CHECK.is("blocked(0)", 0, () -> x.blocked(0));
        CHECK.is("blocked(1)", 1, () -> x.blocked(1));
        CHECK.is("count() afterwards", 0, x::count);
        CHECK.is("blocked(0) again", 0, () -> x.blocked(0));
        CHECK.argument("panel(0, 0) afterwards", () -> x.panel(0, 0));
        CHECK.is("chance(0) afterwards", 0, () -> x.chance(0));
        CHECK.state("dice(6) afterwards", () -> x.dice(6));
        x.quota(0, 1, 0, 8);
        CHECK.is("count() without the clash", 27, x::count);
        CHECK.is("blocked(0) without the clash", -1, () -> x.blocked(0));
    }
}
