/** Each sentence of the section "Terms" on the pool, its kinds, quotas, panels and states, from both sides of its bound. */
public final class TermsBoundsTest {
    private static final Check CHECK = new Check("TermsBoundsTest");
    private static final int[] FAR = {Integer.MIN_VALUE, -65536, -2, -1};

    public static void main(String[] args) {
        CHECK.run(TermsBoundsTest::fiveHundredAndTwelveCalls);
        CHECK.run(TermsBoundsTest::fortyPersons);
        CHECK.run(TermsBoundsTest::threeTraits);
        CHECK.run(TermsBoundsTest::oneToFourValues);
        CHECK.run(TermsBoundsTest::valuesFromZeroUp);
        CHECK.run(TermsBoundsTest::oneValueAtFirst);
        CHECK.run(TermsBoundsTest::sameThreeValuesAreAKind);
        CHECK.run(TermsBoundsTest::kindsInTheOrderOfValues);
        CHECK.run(TermsBoundsTest::kindsAsTheyAreNow);
        CHECK.run(TermsBoundsTest::sixteenKinds);
        CHECK.run(TermsBoundsTest::fromLeastToMost);
        CHECK.run(TermsBoundsTest::zeroAndEightAtFirst);
        CHECK.run(TermsBoundsTest::oneToEightMembers);
        CHECK.run(TermsBoundsTest::oneMemberAtFirst);
        CHECK.run(TermsBoundsTest::setOfSoManyPersons);
        CHECK.run(TermsBoundsTest::everyValueOfEveryTrait);
        CHECK.run(TermsBoundsTest::rankedFromZero);
        CHECK.run(TermsBoundsTest::fewerOfTheFirstKindFirst);
        CHECK.run(TermsBoundsTest::rowsInALexicon);
        CHECK.run(TermsBoundsTest::theSecondKindAndSoOn);
        CHECK.run(TermsBoundsTest::toldKindByKind);
        CHECK.run(TermsBoundsTest::behindEachKind);
        CHECK.run(TermsBoundsTest::rowsOfHowMany);
        CHECK.run(TermsBoundsTest::someMembersOfTheKindsSoFar);
        CHECK.run(TermsBoundsTest::noneAboveItsMost);
        CHECK.run(TermsBoundsTest::atMostSizeMembers);
        CHECK.run(TermsBoundsTest::allKindsTogether);
        CHECK.run(TermsBoundsTest::moreThanThousand);
        CHECK.finish();
    }

    private static void fiveHundredAndTwelveCalls() {
        CHECK.sentence("An object is used for at most 512 calls after it has been made");
        PanelOffice asked = new PanelOffice();
        CHECK.is("call 1", 0, () -> asked.person(0, 0, 0));
        for (int call = 2; call <= 511; call++) {
            asked.mark(0);
        }
        CHECK.is("call 512", 1, () -> asked.mark(0) ? 1 : 0);
        PanelOffice changed = new PanelOffice();
        for (int call = 1; call <= 511; call++) {
            changed.quota(0, 0, call % 2, 8);
        }
        CHECK.is("call 512 after changes", 0, () -> changed.person(0, 0, 0));
    }

    private static void fortyPersons() {
        CHECK.sentence("THE POOL has at most 40 PERSONS, numbered as they come");
        PanelOffice x = new PanelOffice();
        for (int p = 0; p < 40; p++) {
            CHECK.is("person " + p, p, () -> x.person(0, 0, 0));
        }
        CHECK.state("a person 40", () -> x.person(0, 0, 0));
        CHECK.is("person 39 is there", 0, () -> x.kind(39));
        CHECK.argument("person 40 is not", () -> x.kind(40));
    }

    private static void threeTraits() {
        CHECK.sentence("three TRAITS 0, 1, 2");
        PanelOffice x = new PanelOffice();
        for (int t = 0; t <= 2; t++) {
            int trait = t;
            CHECK.works("trait " + t, () -> x.trait(trait, 2));
            CHECK.works("a quota of trait " + t, () -> x.quota(trait, 1, 0, 1));
        }
        for (int t : new int[] {Integer.MIN_VALUE, -1, 3, 4, Integer.MAX_VALUE}) {
            CHECK.argument("trait " + t, () -> x.trait(t, 2));
            CHECK.argument("a quota of trait " + t, () -> x.quota(t, 0, 0, 8));
        }
    }

    private static void oneToFourValues() {
        CHECK.sentence("1 .. 4 VALUES each");
        PanelOffice x = new PanelOffice();
        for (int t = 0; t <= 2; t++) {
            int trait = t;
            for (int values : new int[] {4, 3, 2, 1}) {
                CHECK.works("trait(" + t + ", " + values + ")", () -> x.trait(trait, values));
                CHECK.works("the last of its values", () -> x.quota(trait, values - 1, 0, 8));
                CHECK.argument("a value behind it", () -> x.quota(trait, values, 0, 8));
            }
            for (int values : new int[] {Integer.MIN_VALUE, -1, 0, 5, 6, Integer.MAX_VALUE}) {
                CHECK.argument("trait(" + t + ", " + values + ")", () -> x.trait(trait, values));
            }
        }
    }

    private static void valuesFromZeroUp() {
        CHECK.sentence("VALUES each, 0 and up");
        PanelOffice x = Offices.withCodes(new int[] {2, 3, 4}, 1);
        CHECK.is("all the lowest", 0, () -> x.person(0, 0, 0));
        CHECK.is("all the highest", 1, () -> x.person(1, 2, 3));
        for (int below : FAR) {
            CHECK.argument("trait 0 has no " + below, () -> x.person(below, 0, 0));
            CHECK.argument("trait 1 has no " + below, () -> x.person(0, below, 0));
            CHECK.argument("trait 2 has no " + below, () -> x.person(0, 0, below));
            CHECK.argument("trait 2 has no quota of " + below, () -> x.quota(2, below, 0, 8));
        }
        CHECK.argument("trait 0 has no 2", () -> x.person(2, 0, 0));
        CHECK.argument("trait 1 has no 3", () -> x.person(0, 3, 0));
        CHECK.argument("trait 2 has no 4", () -> x.person(0, 0, 4));
    }

    private static void oneValueAtFirst() {
        CHECK.sentence("(at first 1 each)");
        PanelOffice x = new PanelOffice();
        CHECK.argument("trait 0 has no value 1", () -> x.person(1, 0, 0));
        CHECK.argument("trait 1 has no value 1", () -> x.person(0, 1, 0));
        CHECK.argument("trait 2 has no value 1", () -> x.person(0, 0, 1));
        CHECK.is("each has value 0", 0, () -> x.person(0, 0, 0));
    }

    private static void sameThreeValuesAreAKind() {
        CHECK.sentence("Persons with the same three values are a KIND");
        CHECK.is("all three the same", 1, () -> Offices.withCodes(new int[] {2, 2, 2}, 1, "101", "101").kind(-1));
        CHECK.is("but for trait 0", 2, () -> Offices.withCodes(new int[] {2, 2, 2}, 1, "101", "001").kind(-1));
        CHECK.is("but for trait 1", 2, () -> Offices.withCodes(new int[] {2, 2, 2}, 1, "101", "111").kind(-1));
        CHECK.is("but for trait 2", 2, () -> Offices.withCodes(new int[] {2, 2, 2}, 1, "101", "100").kind(-1));
        CHECK.is("no person, no kind", 0, () -> new PanelOffice().kind(-1));
    }

    private static void kindsInTheOrderOfValues() {
        CHECK.sentence("kinds are in the order of their values (of trait 0 first, then 1, then 2)");
        PanelOffice x = Offices.withCodes(new int[] {4, 4, 4}, 1, "300", "033", "030", "003", "103", "130", "301");
        int[] due = {5, 2, 1, 0, 3, 4, 6};
        for (int p = 0; p < due.length; p++) {
            int person = p;
            CHECK.is("kind(" + p + ")", due[p], () -> x.kind(person));
        }
    }

    private static void kindsAsTheyAreNow() {
        CHECK.sentence("numbered so from 0 on, as they are now");
        PanelOffice x = Offices.withCodes(new int[] {4, 1, 1}, 1, "200");
        CHECK.is("the only kind", 0, () -> x.kind(0));
        x.person(3, 0, 0);
        CHECK.is("with one behind it", 0, () -> x.kind(0));
        CHECK.is("the one behind it", 1, () -> x.kind(1));
        x.person(0, 0, 0);
        CHECK.is("with one before it", 1, () -> x.kind(0));
        CHECK.is("the one behind it", 2, () -> x.kind(1));
        CHECK.is("the one before it", 0, () -> x.kind(2));
        x.person(0, 0, 0);
        CHECK.is("one more of a kind that there is", 1, () -> x.kind(0));
        CHECK.is("three kinds", 3, () -> x.kind(-1));
    }

    private static void sixteenKinds() {
        CHECK.sentence("there are at most 16");
        PanelOffice x = new PanelOffice();
        x.trait(0, 4);
        x.trait(1, 4);
        x.trait(2, 4);
        for (int n = 0; n < 16; n++) {
            int code = n;
            CHECK.is("a kind more", n, () -> x.person(code / 4, code % 4, 1));
            CHECK.is("kinds", n + 1, () -> x.kind(-1));
        }
        CHECK.state("a seventeenth before all", () -> x.person(0, 0, 0));
        CHECK.state("a seventeenth among them", () -> x.person(1, 2, 0));
        CHECK.state("a seventeenth behind all", () -> x.person(3, 3, 2));
        CHECK.is("one more of the first", 16, () -> x.person(0, 0, 1));
        CHECK.is("one more of the last", 17, () -> x.person(3, 3, 1));
        CHECK.is("still 16", 16, () -> x.kind(-1));
    }

    private static void fromLeastToMost() {
        CHECK.sentence("a QUOTA says how many members may have it, from LEAST to MOST");
        PanelOffice x = Offices.byValue(4, 4, 4);
        x.quota(0, 1, 2, 3);
        CHECK.missing("one below least", () -> Offices.rankOf(x, 0, 1, 2, 4));
        CHECK.works("just least", () -> Offices.rankOf(x, 0, 1, 4, 5));
        CHECK.works("just most", () -> Offices.rankOf(x, 0, 4, 5, 6));
        CHECK.missing("one above most", () -> Offices.rankOf(x, 4, 5, 6, 7));
        CHECK.is("panels", 6 * 6 + 4 * 4, x::count);
        x.quota(0, 1, 1, 4);
        CHECK.is("one wider on both sides", 6 * 6 + 4 * 4 + 4 * 4 + 1, x::count);
        x.quota(0, 1, 2, 2);
        CHECK.is("least and most the same", 6 * 6, x::count);
    }

    private static void zeroAndEightAtFirst() {
        CHECK.sentence("(0 and 8 at first)");
        for (int q = 0; q < 12; q++) {
            int t = q / 4;
            int v = q % 4;
            PanelOffice x = new PanelOffice();
            x.trait(t, 4);
            x.size(8);
            for (int p = 0; p < 8; p++) {
                x.person(t == 0 ? v : 0, t == 1 ? v : 0, t == 2 ? v : 0);
            }
            CHECK.is("eight of a value, none of the others", 1, x::count);
            x.quota(t, v, 0, 7);
            CHECK.is("a most of 7", 0, x::count);
            x.quota(t, v, 0, 8);
            CHECK.is("as at first", 1, x::count);
            x.quota(t, 3 - v, 1, 8);
            CHECK.is("a least of 1", 0, x::count);
        }
    }

    private static void oneToEightMembers() {
        CHECK.sentence("SIZE is how many members a panel has, 1 .. 8");
        PanelOffice x = Offices.alike(8, 1);
        CHECK.works("size(1)", () -> x.size(1));
        CHECK.panelIs(x, 7, 7);
        CHECK.works("size(8)", () -> x.size(8));
        CHECK.panelIs(x, 0, 0, 1, 2, 3, 4, 5, 6, 7);
        for (int n : new int[] {Integer.MIN_VALUE, -1, 0, 9, 10, Integer.MAX_VALUE}) {
            CHECK.argument("size(" + n + ")", () -> x.size(n));
        }
    }

    private static void oneMemberAtFirst() {
        CHECK.sentence("1 .. 8 (1 at first)");
        PanelOffice x = new PanelOffice();
        x.person(0, 0, 0);
        CHECK.is("one person", 1, x::count);
        x.person(0, 0, 0);
        CHECK.is("two persons", 2, x::count);
        CHECK.panelIs(x, 1, 1);
    }

    private static void setOfSoManyPersons() {
        CHECK.sentence("A PANEL is a set of so many persons");
        for (int n = 1; n <= 8; n++) {
            CHECK.is("one person too few", 0, Offices.alike(n - 1, n)::count);
            CHECK.is("just enough", 1, Offices.alike(n, n)::count);
            CHECK.is("one more", n + 1, Offices.alike(n + 1, n)::count);
        }
        PanelOffice x = Offices.alike(5, 3);
        CHECK.missing("one too few", () -> Offices.rankOf(x, 0, 1));
        CHECK.works("so many", () -> Offices.rankOf(x, 0, 1, 2));
        CHECK.missing("one too many", () -> Offices.rankOf(x, 0, 1, 2, 3));
    }

    private static void everyValueOfEveryTrait() {
        CHECK.sentence("whose number, for each value of each trait, is within its quota");
        for (int q = 0; q < 12; q++) {
            int t = q / 4;
            int v = q % 4;
            PanelOffice x = Offices.withCodes(new int[] {4, 4, 4}, 2, "000", "111", "222", "333");
            CHECK.is("no quota", 6, x::count);
            x.quota(t, v, 0, 0);
            CHECK.is("none of value " + v + " of trait " + t, 3, x::count);
            x.quota(t, v, 1, 1);
            CHECK.is("one of them", 3, x::count);
            x.quota(t, v, 2, 2);
            CHECK.is("two of them", 0, x::count);
        }
    }

    private static void rankedFromZero() {
        CHECK.sentence("Panels are RANKED from 0 on");
        PanelOffice x = Offices.alike(4, 2);
        CHECK.argument("rank -1", () -> x.panel(-1, 0));
        CHECK.panelIs(x, 0, 0, 1);
        CHECK.panelIs(x, 5, 2, 3);
        CHECK.argument("rank 6 of 6", () -> x.panel(6, 0));
        CHECK.is("the first panel's rank", 0, () -> Offices.rankOf(x, 0, 1));
        CHECK.is("the last panel's rank", 5, () -> Offices.rankOf(x, 2, 3));
    }

    private static void fewerOfTheFirstKindFirst() {
        CHECK.sentence("by how many members of the first kind they have, the fewer first");
        PanelOffice x = Offices.byValue(3, 3, 3);
        CHECK.panelIs(x, 0, 3, 4, 5);
        CHECK.panelIs(x, 1, 0, 3, 4);
        CHECK.panelIs(x, 9, 2, 4, 5);
        CHECK.panelIs(x, 10, 0, 1, 3);
        CHECK.panelIs(x, 18, 1, 2, 5);
        CHECK.panelIs(x, 19, 0, 1, 2);
    }

    private static void rowsInALexicon() {
        CHECK.sentence("of equal ones by which ones (as rows of their numbers, upward, in a lexicon)");
        PanelOffice x = Offices.alike(12, 3);
        CHECK.panelIs(x, 0, 0, 1, 2);
        CHECK.panelIs(x, 9, 0, 1, 11);
        CHECK.panelIs(x, 10, 0, 2, 3);
        CHECK.panelIs(x, 54, 0, 10, 11);
        CHECK.panelIs(x, 55, 1, 2, 3);
        CHECK.is("9 is before 10", 1, () -> Offices.rankOf(x, 0, 1, 10) - Offices.rankOf(x, 0, 1, 9));
        CHECK.is("the first number is looked at first", 1, () -> Offices.rankOf(x, 1, 2, 3) - Offices.rankOf(x, 0, 10, 11));
    }

    private static void theSecondKindAndSoOn() {
        CHECK.sentence("of equal ones by the second kind, and so on");
        PanelOffice x = Offices.byValue(3, 2, 2, 2);
        x.quota(0, 0, 1, 1);
        CHECK.panelIs(x, 0, 0, 4, 5);
        CHECK.panelIs(x, 1, 0, 2, 4);
        CHECK.panelIs(x, 2, 0, 2, 5);
        CHECK.panelIs(x, 3, 0, 3, 4);
        CHECK.panelIs(x, 4, 0, 3, 5);
        CHECK.panelIs(x, 5, 0, 2, 3);
        CHECK.panelIs(x, 6, 1, 4, 5);
        PanelOffice all = Offices.sixteenKinds();
        for (int rank = 0; rank < 16; rank++) {
            CHECK.panelIs(all, rank, rank);
        }
    }

    private static void toldKindByKind() {
        CHECK.sentence("Members of a panel are told in this order, too: kind by kind, upward in each");
        PanelOffice x = Offices.withCodes(new int[] {2, 1, 1}, 4, "100", "000", "100", "000");
        CHECK.panelIs(x, 0, 1, 3, 0, 2);
        x.dice(2);
        x.draw();
        CHECK.membersAre(x, 1, 3, 0, 2);
    }

    private static void behindEachKind() {
        CHECK.sentence("STATES: behind each kind, from the first on");
        CHECK.is("no kind", 0, new PanelOffice()::states);
        CHECK.is("the row of nobody and that of one, behind the only kind", 2, Offices.byValue(1, 1)::states);
        CHECK.is("two behind the first, three behind the second", 5, Offices.byValue(1, 1, 1)::states);
        PanelOffice most = Offices.byValue(1, 1, 1);
        most.quota(0, 0, 0, 0);
        most.quota(0, 1, 0, 0);
        CHECK.is("the row of nobody behind each kind", 2, most::states);
    }

    private static void rowsOfHowMany() {
        CHECK.sentence("those rows of how many have each value");
        CHECK.is("who has it does not matter", 3, Offices.alike(7, 2)::states);
        PanelOffice x = Offices.withCodes(new int[] {2, 2, 1}, 2, "000", "010", "100", "110");
        CHECK.is("two ways to the same row", 2 + 4 + 7 + 10, x::states);
        PanelOffice y = Offices.withCodes(new int[] {2, 2, 2}, 2, "000", "010", "100", "111");
        CHECK.is("no two ways", 2 + 4 + 7 + 11, y::states);
    }

    private static void someMembersOfTheKindsSoFar() {
        CHECK.sentence("that can be come to by some members of the kinds so far");
        CHECK.is("one less than all members", 3, Offices.alike(2, 3)::states);
        CHECK.is("just all members", 4, Offices.alike(3, 3)::states);
        CHECK.is("more than a panel takes", 4, Offices.alike(4, 3)::states);
        PanelOffice x = Offices.byValue(8, 1, 2);
        CHECK.is("also where no panel can be", 2 + 6, x::states);
        x.quota(0, 0, 1, 1);
        x.quota(0, 1, 2, 2);
        CHECK.is("also below a least", 2 + 6, x::states);
    }

    private static void noneAboveItsMost() {
        CHECK.sentence("none of them above its most");
        PanelOffice x = Offices.byValue(8, 3, 2);
        CHECK.is("mosts of 8", 4 + 12, x::states);
        x.quota(0, 0, 0, 3);
        CHECK.is("a most of all that there are", 4 + 12, x::states);
        x.quota(0, 0, 0, 2);
        CHECK.is("a most of one less", 3 + 9, x::states);
        x.quota(0, 0, 0, 0);
        CHECK.is("a most of none", 1 + 3, x::states);
        x.quota(0, 0, 0, 8);
        x.quota(1, 0, 0, 4);
        CHECK.is("a most of one less than both kinds have", 4 + 11, x::states);
    }

    private static void atMostSizeMembers() {
        CHECK.sentence("at most SIZE members in all");
        PanelOffice x = Offices.byValue(5, 3, 2);
        CHECK.is("all of both kinds", 4 + 12, x::states);
        x.size(4);
        CHECK.is("one less", 4 + 11, x::states);
        x.size(1);
        CHECK.is("one", 2 + 3, x::states);
    }

    private static void allKindsTogether() {
        CHECK.sentence("all that there are, of all kinds together");
        PanelOffice one = Offices.sixteenKinds();
        CHECK.is("2, 3, .. 17 rows", (2 + 17) * 8, one::states);
        one.person(3, 3, 0);
        CHECK.is("one person more, no row more", (2 + 17) * 8, one::states);
        PanelOffice few = Offices.byValue(1, 1, 0, 1, 1);
        CHECK.is("2, 3, 4 rows", 9, few::states);
        few.person(1, 0, 0);
        CHECK.is("2, 3, 4, 5 rows", 14, few::states);
    }

    private static void moreThanThousand() {
        CHECK.sentence("If there are more than 1000, counting is refused");
        PanelOffice x = Offices.thousandStates();
        CHECK.is("1000: count()", 116280, x::count);
        CHECK.is("1000: states()", 1000, x::states);
        x.person(1, 2, 0);
        CHECK.refused("1001: count()", x::count);
        CHECK.is("1001: states()", -1, x::states);
        PanelOffice y = Offices.thousandAndOneStates();
        CHECK.refused("1001: count()", y::count);
        y.quota(0, 1, 0, 7);
        CHECK.is("1000: count()", 24309, y::count);
        y.quota(0, 1, 0, 8);
        CHECK.refused("1001 again: count()", y::count);
    }
}
