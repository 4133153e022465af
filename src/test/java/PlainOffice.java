import java.util.ArrayList;
import java.util.Arrays;
import java.util.HashSet;
import java.util.List;
import java.util.NoSuchElementException;
import java.util.Set;
import java.util.TreeSet;

/**
 * The document once more, by listing every panel and sorting the list: slow, for small pools only,
 * and made to share no idea with the program that it is compared with.
 */
final class PlainOffice {
    private final List<int[]> persons = new ArrayList<>();
    private final int[] values = {1, 1, 1};
    private final int[][][] quotas = new int[3][4][];
    private final Set<Integer> marked = new TreeSet<>();
    private final Set<Integer> dropped = new TreeSet<>();
    private int size;
    private int[] drawn;
    private boolean rolling;
    private int sides;
    private long goal;
    private final List<Integer> thrown = new ArrayList<>();
    private Long number;
    private List<int[]> known;

    PlainOffice() {
        reset();
    }

    void reset() {
        persons.clear();
        Arrays.fill(values, 1);
        for (int[][] ofTrait : quotas) {
            for (int v = 0; v < 4; v++) {
                ofTrait[v] = new int[] {0, 8};
            }
        }
        marked.clear();
        dropped.clear();
        size = 1;
        drawn = null;
        changed();
    }

    void trait(int t, int n) {
        argument(t >= 0 && t <= 2 && n >= 1 && n <= 4);
        for (int[] p : persons) {
            argument(p[t] < n);
        }
        state(drawn == null);
        values[t] = n;
        changed();
    }

    int person(int a, int b, int c) {
        argument(a >= 0 && a < values[0] && b >= 0 && b < values[1] && c >= 0 && c < values[2]);
        state(drawn == null && persons.size() < 40);
        persons.add(new int[] {a, b, c});
        if (kinds().size() > 16) {
            persons.remove(persons.size() - 1);
            throw new IllegalStateException();
        }
        changed();
        return persons.size() - 1;
    }

    void quota(int t, int v, int least, int most) {
        argument(t >= 0 && t <= 2);
        argument(v >= 0 && v < values[t]);
        argument(0 <= least && least <= most && most <= 8);
        state(drawn == null);
        quotas[t][v] = new int[] {least, most};
        changed();
    }

    void size(int n) {
        argument(n >= 1 && n <= 8);
        state(drawn == null);
        size = n;
        changed();
    }

    long count() {
        return panels().size();
    }

    int states() {
        Set<List<Integer>> rows = new HashSet<>();
        rows.add(Arrays.asList(0, 0, 0, 0, 0, 0, 0, 0, 0, 0, 0, 0));
        int sum = 0;
        for (int kind : kinds()) {
            for (int[] p : persons) {
                if (code(p) == kind) {
                    Set<List<Integer>> grown = new HashSet<>(rows);
                    for (List<Integer> row : rows) {
                        List<Integer> next = new ArrayList<>(row);
                        int members = 0;
                        boolean kept = true;
                        for (int t = 0; t < 3; t++) {
                            int at = 4 * t + p[t];
                            next.set(at, next.get(at) + 1);
                            kept &= next.get(at) <= quotas[t][p[t]][1];
                        }
                        for (int v = 0; v < 4; v++) {
                            members += next.get(v);
                        }
                        if (kept && members <= size) {
                            grown.add(next);
                        }
                    }
                    rows = grown;
                }
            }
            sum += rows.size();
            if (sum > 1000) {
                return -1;
            }
        }
        return sum;
    }

    long chance(int person) {
        argument(person >= 0 && person < persons.size());
        return panels().stream().filter(m -> contains(m, person)).count();
    }

    int kind(int person) {
        argument(person >= -1 && person < persons.size());
        TreeSet<Integer> kinds = kinds();
        return person == -1 ? kinds.size() : kinds.headSet(code(persons.get(person))).size();
    }

    int blocked(int i) {
        argument(i >= 0);
        if (!panels().isEmpty()) {
            return -1;
        }
        List<Integer> kept = new ArrayList<>();
        int[][][] saved = new int[3][4][];
        for (int t = 0; t < 3; t++) {
            saved[t] = quotas[t].clone();
        }
        try {
            for (int t = 0; t < 3; t++) {
                for (int v = 0; v < values[t]; v++) {
                    int[] own = quotas[t][v];
                    if (own[0] != 0 || own[1] != 8) {
                        quotas[t][v] = new int[] {0, 8};
                        known = null;
                        if (!panels().isEmpty()) {
                            quotas[t][v] = own;
                            kept.add(10 * t + v);
                        }
                    }
                }
            }
        } finally {
            for (int t = 0; t < 3; t++) {
                System.arraycopy(saved[t], 0, quotas[t], 0, 4);
            }
            known = null;
        }
        return i < kept.size() ? kept.get(i) : -1;
    }

    int panel(long rank, int i) {
        argument(i >= 0 && i < size);
        List<int[]> all = panels();
        argument(rank >= 0 && rank < all.size());
        return all.get((int) rank)[i];
    }

    boolean mark(int person) {
        argument(person >= 0 && person < persons.size());
        return marked.remove(person) ? false : marked.add(person);
    }

    long rank() {
        List<int[]> all = panels();
        for (int r = 0; r < all.size(); r++) {
            Set<Integer> members = new TreeSet<>();
            for (int p : all.get(r)) {
                members.add(p);
            }
            if (members.equals(marked)) {
                return r;
            }
        }
        throw new NoSuchElementException();
    }

    int dice(int n) {
        argument(n >= 2 && n <= 20);
        long all = panels().size();
        long now = drawn == null ? all : candidates().size();
        state(now > 0);
        end();
        rolling = true;
        sides = n;
        goal = now;
        if (goal == 1) {
            number = 0L;
        }
        return needed();
    }

    int roll(int side) {
        state(rolling && number == null);
        argument(side >= 1 && side <= sides);
        thrown.add(side);
        if (thrown.size() < needed()) {
            return 0;
        }
        long made = 0;
        for (int digit : thrown) {
            made = made * sides + (digit - 1);
        }
        thrown.clear();
        long multiple = 0;
        while (multiple + goal <= power(needed())) {
            multiple += goal;
        }
        if (multiple <= made) {
            return 2;
        }
        number = made % goal;
        return 1;
    }

    long number() {
        if (number == null) {
            throw new NoSuchElementException();
        }
        return number;
    }

    void draw() {
        state(drawn == null && number != null);
        drawn = panels().get(number.intValue()).clone();
        end();
    }

    int member(int i) {
        state(drawn != null);
        argument(i >= 0 && i < size);
        return drawn[i];
    }

    void dropOut(int person) {
        state(drawn != null && !contains(drawn, -1));
        for (int i = 0; i < size; i++) {
            if (drawn[i] == person) {
                drawn[i] = -1;
                dropped.add(person);
                end();
                return;
            }
        }
        throw new NoSuchElementException();
    }

    int candidate(int i) {
        argument(i >= 0);
        List<Integer> all = candidates();
        return i < all.size() ? all.get(i) : -1;
    }

    int replace() {
        state(drawn != null && contains(drawn, -1) && number != null);
        int who = candidates().get(number.intValue());
        for (int i = 0; i < size; i++) {
            if (drawn[i] == -1) {
                drawn[i] = who;
            }
        }
        end();
        return who;
    }

    int breach() {
        state(drawn != null);
        return breachOf(drawn);
    }

    private List<Integer> candidates() {
        List<Integer> best = new ArrayList<>();
        if (drawn == null || !contains(drawn, -1)) {
            return best;
        }
        int least = Integer.MAX_VALUE;
        for (int round = 0; round < 2; round++) {
            for (int p = 0; p < persons.size(); p++) {
                if (!contains(drawn, p) && !dropped.contains(p)) {
                    int[] with = Arrays.copyOf(drawn, drawn.length + 1);
                    with[drawn.length] = p;
                    if (round == 0) {
                        least = Math.min(least, breachOf(with));
                    } else if (breachOf(with) == least) {
                        best.add(p);
                    }
                }
            }
        }
        return best;
    }

    private int breachOf(int[] members) {
        int sum = 0;
        for (int t = 0; t < 3; t++) {
            for (int v = 0; v < values[t]; v++) {
                int have = 0;
                for (int p : members) {
                    if (p >= 0 && persons.get(p)[t] == v) {
                        have++;
                    }
                }
                int[] quota = quotas[t][v];
                sum += have < quota[0] ? quota[0] - have : have > quota[1] ? have - quota[1] : 0;
            }
        }
        return sum;
    }

    private List<int[]> panels() {
        if (states() < 0) {
            throw new UnsupportedOperationException();
        }
        if (known == null) {
            known = new ArrayList<>();
            for (int set = 0; set < 1 << persons.size(); set++) {
                if (Integer.bitCount(set) == size) {
                    int[] members = told(set);
                    if (breachOf(members) == 0) {
                        known.add(members);
                    }
                }
            }
            known.sort(this::compare);
        }
        return known;
    }

    private int[] told(int set) {
        int[] members = new int[size];
        int n = 0;
        for (int kind : kinds()) {
            for (int p = 0; p < persons.size(); p++) {
                if ((set >> p & 1) == 1 && code(persons.get(p)) == kind) {
                    members[n++] = p;
                }
            }
        }
        return members;
    }

    private int compare(int[] one, int[] other) {
        for (int kind : kinds()) {
            int[] a = Arrays.stream(one).filter(p -> code(persons.get(p)) == kind).toArray();
            int[] b = Arrays.stream(other).filter(p -> code(persons.get(p)) == kind).toArray();
            if (a.length != b.length) {
                return a.length - b.length;
            }
            int by = Arrays.compare(a, b);
            if (by != 0) {
                return by;
            }
        }
        return 0;
    }

    private TreeSet<Integer> kinds() {
        TreeSet<Integer> kinds = new TreeSet<>();
        for (int[] p : persons) {
            kinds.add(code(p));
        }
        return kinds;
    }

    private static int code(int[] p) {
        return p[0] * 100 + p[1] * 10 + p[2];
    }

    private int needed() {
        int n = 0;
        while (power(n) < goal) {
            n++;
        }
        return n;
    }

    private long power(int n) {
        long outcomes = 1;
        for (int i = 0; i < n; i++) {
            outcomes *= sides;
        }
        return outcomes;
    }

    private void changed() {
        known = null;
        end();
    }

    private void end() {
        rolling = false;
        thrown.clear();
        number = null;
    }

    private static boolean contains(int[] row, int x) {
        for (int y : row) {
            if (y == x) {
                return true;
            }
        }
        return false;
    }

    private static void argument(boolean good) {
        if (!good) {
            throw new IllegalArgumentException();
        }
    }

    private static void state(boolean good) {
        if (!good) {
            throw new IllegalStateException();
        }
    }
}
