/** Pools that several tests begin with. */
final class Offices {
    private Offices() {
    }

    /** Seven persons of five kinds; panels of 3 with quotas: 27 of them. */
    static PanelOffice small() {
        PanelOffice x = new PanelOffice();
        x.trait(0, 2);
        x.trait(1, 3);
        x.trait(2, 2);
        x.person(0, 0, 0);
        x.person(1, 2, 1);
        x.person(0, 0, 0);
        x.person(1, 0, 1);
        x.person(0, 2, 0);
        x.person(1, 1, 1);
        x.person(0, 0, 0);
        x.size(3);
        x.quota(0, 0, 1, 2);
        x.quota(1, 0, 0, 2);
        return x;
    }

    /** So many persons of one kind. */
    static PanelOffice alike(int persons, int size) {
        PanelOffice x = new PanelOffice();
        for (int p = 0; p < persons; p++) {
            x.person(0, 0, 0);
        }
        x.size(size);
        return x;
    }

    /** Sixteen kinds of one person each, numbered against the order of their kinds. */
    static PanelOffice sixteenKinds() {
        PanelOffice x = new PanelOffice();
        x.trait(0, 4);
        x.trait(1, 4);
        x.trait(2, 2);
        for (int code = 15; code >= 0; code--) {
            x.person(code / 4, code % 4, 0);
        }
        return x;
    }

    /** Traits with so many values, and persons with values written as three digits. */
    static PanelOffice withCodes(int[] values, int size, String... codes) {
        PanelOffice x = new PanelOffice();
        for (int t = 0; t < 3; t++) {
            x.trait(t, values[t]);
        }
        for (String code : codes) {
            x.person(code.charAt(0) - '0', code.charAt(1) - '0', code.charAt(2) - '0');
        }
        x.size(size);
        return x;
    }

    /** Persons who differ in trait 0 alone: so many with each of its four values, numbered value by value. */
    static PanelOffice byValue(int size, int... persons) {
        PanelOffice x = new PanelOffice();
        x.trait(0, 4);
        for (int v = 0; v < persons.length; v++) {
            for (int n = 0; n < persons[v]; n++) {
                x.person(v, 0, 0);
            }
        }
        x.size(size);
        return x;
    }

    /** Just 1000 states; one person (1, 2, 0) more makes 1001. */
    static PanelOffice thousandStates() {
        return withCodes(new int[] {2, 3, 1}, 7, "100", "110", "120", "100", "110", "010", "020", "120", "120", "000", "010",
            "100", "120", "120", "010", "000", "010", "000", "000", "110", "120");
    }

    /** Just 1001 states; with a most of 7 for value 1 of trait 0 there are 1000. */
    static PanelOffice thousandAndOneStates() {
        return withCodes(new int[] {2, 3, 1}, 8, "010", "020", "100", "020", "010", "120", "110", "020", "120", "020", "100",
            "020", "000", "100", "120", "120", "010");
    }

    /** The rank of the panel of these persons, if no one is marked before; no one is marked after it, either. */
    static long rankOf(PanelOffice x, int... persons) {
        turnMarks(x, persons);
        try {
            return x.rank();
        } finally {
            turnMarks(x, persons);
        }
    }

    static void turnMarks(PanelOffice x, int... persons) {
        for (int person : persons) {
            x.mark(person);
        }
    }

    /** Draws the panel of the number that these throws make. */
    static void drawWith(PanelOffice x, int sides, int... thrown) {
        x.dice(sides);
        for (int side : thrown) {
            x.roll(side);
        }
        x.draw();
    }
}
