/** Pools that several tests begin with. */
final class Offices {
    private Offices() {
    }

    /** Seven persons of five kinds; panels of 3 with quotas: 27 of them. */
    static PanelOffice small() {
        PanelOffice x = new PanelOffice();
        x.trait(0, 2);
        x.trait(1, 3);
        x.trait(2, 2);
        x.person(0, 0, 0);
        x.person(1, 2, 1);
        x.person(0, 0, 0);
        x.person(1, 0, 1);
        x.person(0, 2, 0);
        x.person(1, 1, 1);
        x.person(0, 0, 0);
        x.size(3);
        x.quota(0, 0, 1, 2);
        x.quota(1, 0, 0, 2);
        return x;
    }

    /** So many persons of one kind. */
    static PanelOffice alike(int persons, int size) {
        PanelOffice x = new PanelOffice();
        for (int p = 0; p < persons; p++) {
            x.person(0, 0, 0);
        }
        x.size(size);
        return x;
    }

    /** Sixteen kinds of one person each, numbered against the order of their kinds. */
    static PanelOffice sixteenKinds() {
        PanelOffice x = new PanelOffice();
        x.trait(0, 4);
        x.trait(1, 4);
        x.trait(2, 2);
        for (int code = 15; code >= 0; code--) {
            x.person(code / 4, code % 4, 0);
        }
        return x;
    }

    /** Draws the panel of the number that these throws make. */
    static void drawWith(PanelOffice x, int sides, int... thrown) {
        x.dice(sides);
        for (int side : thrown) {
            x.roll(side);
        }
        x.draw();
    }
}
