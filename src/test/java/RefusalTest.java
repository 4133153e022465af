import java.util.LinkedHashMap;
import java.util.Map;
import java.util.function.Consumer;
import java.util.function.Supplier;

/**
 * Promises 1 to 23: which call throws what in which stage, and that a refused call changes nothing: the office
 * afterwards tells just what one tells that was not asked.
 */
public final class RefusalTest {
    private static final Check CHECK = new Check("RefusalTest");
    private static final Map<String, Supplier<PanelOffice>> STAGES = new LinkedHashMap<>();

    public static void main(String[] args) {
        stages();
        pool();
        questions();
        marksAndRanks();
        lots();
        CHECK.finish();
    }

    private static void stages() {
        STAGES.put("empty", PanelOffice::new);
        STAGES.put("open", Offices::small);
        STAGES.put("throws begun", () -> thrown(Offices.small(), 6, 3));
        STAGES.put("number there", () -> thrown(Offices.small(), 6, 3, 2));
        STAGES.put("full", RefusalTest::full);
        STAGES.put("clash", RefusalTest::clash);
        STAGES.put("counting refused", Offices::thousandAndOneStates);
        STAGES.put("drawn", RefusalTest::drawn);
        STAGES.put("place empty", RefusalTest::vacant);
        STAGES.put("throws for a place begun", () -> thrown(vacant(), 2, 1));
        STAGES.put("number for a place there", () -> thrown(vacant(), 4, 2));
        STAGES.put("nobody left", RefusalTest::nobodyLeft);
    }

    private static PanelOffice thrown(PanelOffice x, int sides, int... throwsMade) {
        x.dice(sides);
        for (int side : throwsMade) {
            x.roll(side);
        }
        return x;
    }

    private static PanelOffice full() {
        PanelOffice x = Offices.sixteenKinds();
        for (int p = 16; p < 40; p++) {
            x.person(p % 4, p / 4 % 4, 0);
        }
        return x;
    }

    private static PanelOffice clash() {
        PanelOffice x = Offices.small();
        x.quota(0, 1, 3, 3);
        return x;
    }

    /** The members are 2, 4 and 5. */
    private static PanelOffice drawn() {
        PanelOffice x = thrown(Offices.small(), 6, 3, 2);
        x.draw();
        return x;
    }

    /** Without 2 the candidates are 0, 1, 3 and 6. */
    private static PanelOffice vacant() {
        PanelOffice x = drawn();
        x.dropOut(2);
        return x;
    }

    private static PanelOffice nobodyLeft() {
        PanelOffice x = Offices.alike(3, 3);
        x.dice(2);
        x.draw();
        x.dropOut(1);
        return x;
    }

    /**
     * A letter for each stage: A for IllegalArgument-, S for IllegalState-, U for UnsupportedOperation-, N for
     * NoSuchElementException, or a point if none is due.
     */
    private static void row(String name, String due, Consumer<PanelOffice> call) {
        int at = 0;
        for (Map.Entry<String, Supplier<PanelOffice>> stage : STAGES.entrySet()) {
            PanelOffice x = stage.getValue().get();
            String what = stage.getKey() + ": " + name;
            char letter = due.charAt(at);
            CHECK.same(what, nameOf(letter), Check.outcomeOf(() -> call.accept(x)));
            if (letter != '.') {
                CHECK.same(what + ", and what is told then", Tale.of(stage.getValue().get()), Tale.of(x));
            }
            at++;
        }
    }

    private static String nameOf(char letter) {
        return switch (letter) {
            case 'A' -> "IllegalArgumentException";
            case 'S' -> "IllegalStateException";
            case 'U' -> "UnsupportedOperationException";
            case 'N' -> "NoSuchElementException";
            default -> "done";
        };
    }

    private static void pool() {
        row("trait(-1, 1)", "AAAAAAAAAAAA", x -> x.trait(-1, 1));
        row("trait(3, 1)", "AAAAAAAAAAAA", x -> x.trait(3, 1));
        row("trait(0, 0)", "AAAAAAAAAAAA", x -> x.trait(0, 0));
        row("trait(0, 5)", "AAAAAAAAAAAA", x -> x.trait(0, 5));
        row("trait(0, 1)", ".AAAAAAAAAAS", x -> x.trait(0, 1));
        row("trait(2, 4)", ".......SSSSS", x -> x.trait(2, 4));
        row("person(4, 0, 0)", "AAAAAAAAAAAA", x -> x.person(4, 0, 0));
        row("person(0, -1, 0)", "AAAAAAAAAAAA", x -> x.person(0, -1, 0));
        row("person(0, 0, 1)", "A...S.ASSSSA", x -> x.person(0, 0, 1));
        row("person(0, 0, 0)", "....S..SSSSS", x -> x.person(0, 0, 0));
        row("quota(-1, 0, 0, 8)", "AAAAAAAAAAAA", x -> x.quota(-1, 0, 0, 8));
        row("quota(3, 0, 0, 8)", "AAAAAAAAAAAA", x -> x.quota(3, 0, 0, 8));
        row("quota(0, -1, 0, 8)", "AAAAAAAAAAAA", x -> x.quota(0, -1, 0, 8));
        row("quota(0, 4, 0, 8)", "AAAAAAAAAAAA", x -> x.quota(0, 4, 0, 8));
        row("quota(0, 0, -1, 8)", "AAAAAAAAAAAA", x -> x.quota(0, 0, -1, 8));
        row("quota(0, 0, 3, 2)", "AAAAAAAAAAAA", x -> x.quota(0, 0, 3, 2));
        row("quota(0, 0, 0, 9)", "AAAAAAAAAAAA", x -> x.quota(0, 0, 0, 9));
        row("quota(0, 0, 0, 0)", ".......SSSSS", x -> x.quota(0, 0, 0, 0));
        row("size(0)", "AAAAAAAAAAAA", x -> x.size(0));
        row("size(9)", "AAAAAAAAAAAA", x -> x.size(9));
        row("size(2)", ".......SSSSS", x -> x.size(2));
        row("reset()", "............", PanelOffice::reset);
    }

    private static void questions() {
        row("count()", "......U.....", PanelOffice::count);
        row("states()", "............", PanelOffice::states);
        row("chance(-1)", "AAAAAAAAAAAA", x -> x.chance(-1));
        row("chance(40)", "AAAAAAAAAAAA", x -> x.chance(40));
        row("chance(0)", "A.....U.....", x -> x.chance(0));
        row("kind(-2)", "AAAAAAAAAAAA", x -> x.kind(-2));
        row("kind(-1)", "............", x -> x.kind(-1));
        row("kind(0)", "A...........", x -> x.kind(0));
        row("kind(40)", "AAAAAAAAAAAA", x -> x.kind(40));
        row("blocked(-1)", "AAAAAAAAAAAA", x -> x.blocked(-1));
        row("blocked(0)", "......U.....", x -> x.blocked(0));
        row("panel(0, -1)", "AAAAAAAAAAAA", x -> x.panel(0, -1));
        row("panel(0, 8)", "AAAAAAAAAAAA", x -> x.panel(0, 8));
        row("panel(-1, 0)", "AAAAAAUAAAAA", x -> x.panel(-1, 0));
        row("panel(1000000, 0)", "AAAAAAUAAAAA", x -> x.panel(1000000, 0));
        row("panel(0, 0)", "A....AU.....", x -> x.panel(0, 0));
    }

    private static void marksAndRanks() {
        row("mark(-1)", "AAAAAAAAAAAA", x -> x.mark(-1));
        row("mark(0)", "A...........", x -> x.mark(0));
        row("mark(40)", "AAAAAAAAAAAA", x -> x.mark(40));
        row("rank()", "NNNNNNUNNNNN", PanelOffice::rank);
    }

    private static void lots() {
        row("dice(1)", "AAAAAAAAAAAA", x -> x.dice(1));
        row("dice(21)", "AAAAAAAAAAAA", x -> x.dice(21));
        row("dice(6)", "S....SUS...S", x -> x.dice(6));
        row("roll(0)", "SSASSSSSSASS", x -> x.roll(0));
        row("roll(7)", "SSASSSSSSASS", x -> x.roll(7));
        row("roll(1)", "SS.SSSSSS.SS", x -> x.roll(1));
        row("number()", "NNN.NNNNNN.N", PanelOffice::number);
        row("draw()", "SSS.SSSSSSSS", PanelOffice::draw);
        row("member(-1)", "SSSSSSSAAAAA", x -> x.member(-1));
        row("member(0)", "SSSSSSS.....", x -> x.member(0));
        row("member(3)", "SSSSSSSAAAAA", x -> x.member(3));
        row("dropOut(-1)", "SSSSSSSNSSSS", x -> x.dropOut(-1));
        row("dropOut(0)", "SSSSSSSNSSSS", x -> x.dropOut(0));
        row("dropOut(4)", "SSSSSSS.SSSS", x -> x.dropOut(4));
        row("dropOut(40)", "SSSSSSSNSSSS", x -> x.dropOut(40));
        row("candidate(-1)", "AAAAAAAAAAAA", x -> x.candidate(-1));
        row("candidate(0)", "............", x -> x.candidate(0));
        row("replace()", "SSSSSSSSSS.S", PanelOffice::replace);
        row("breach()", "SSSSSSS.....", PanelOffice::breach);
    }

    /** All that an office tells, and then what it does when it is used further. */
    private static final class Tale {
        private final StringBuilder words = new StringBuilder();

        static String of(PanelOffice x) {
            Tale tale = new Tale();
            tale.ask(x);
            tale.goOn(x);
            return tale.words.toString();
        }

        private void tell(Check.Asked asked) {
            words.append(Check.outcome(asked)).append(' ');
        }

        private void ask(PanelOffice x) {
            tell(() -> x.kind(-1));
            tell(x::states);
            tell(x::count);
            tell(x::rank);
            tell(x::number);
            tell(x::breach);
            for (int n = 0; n < 9; n++) {
                int i = n;
                tell(() -> x.kind(i));
                tell(() -> x.chance(i));
                tell(() -> x.panel(0, i));
                tell(() -> x.member(i));
                tell(() -> x.candidate(i));
                tell(() -> x.blocked(i));
            }
        }

        private void goOn(PanelOffice x) {
            tell(() -> x.roll(2));
            tell(x::number);
            tell(x::replace);
            tell(() -> done(x::draw));
            for (int n = 0; n < 8; n++) {
                int i = n;
                tell(() -> x.member(i));
            }
            tell(() -> done(() -> x.dropOut(4)));
            tell(() -> x.dice(4));
            tell(() -> x.roll(1));
            tell(() -> x.candidate(0));
            for (int p = 0; p < 40; p++) {
                int person = p;
                tell(() -> x.mark(person) ? 1 : 0);
            }
            for (int q = 0; q < 12; q++) {
                int t = q / 4;
                int v = q % 4;
                tell(() -> done(() -> x.quota(t, v, 0, 8)));
                tell(x::count);
            }
            tell(() -> x.person(0, 0, 0));
            tell(() -> done(() -> x.size(1)));
            tell(x::states);
        }

        private static long done(Check.Done call) {
            call.call();
            return 0;
        }
    }
}
