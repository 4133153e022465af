import java.util.Arrays;
import java.util.NoSuchElementException;

/** An office that draws citizens' panels by lot. The document's promises stand in ../shared/DOC.md. */
public final class PanelOffice {
    private static final int TRAITS = 3;
    private static final int MOST_VALUES = 4;
    private static final int QUOTAS = TRAITS * MOST_VALUES;
    private static final int MOST_PERSONS = 40;
    private static final int MOST_KINDS = 16;
    private static final int MOST_MEMBERS = 8;
    private static final int MOST_STATES = 1000;
    private static final int FEWEST_SIDES = 2;
    private static final int MOST_SIDES = 20;
    private static final int NOBODY = -1;

    private final Pool pool = new Pool();
    private final Quotas quotas = new Quotas();
    private final Tally tally = new Tally(pool);
    private final Ranking ranking = new Ranking(pool, tally);
    private final Clash clash = new Clash(pool, tally);
    private final Dice dice = new Dice();
    private final Seats seats = new Seats(pool, quotas);
    private final int[] told = new int[MOST_MEMBERS];
    private int size = 1;
    private long marks = 0;
    private boolean tallyIsFresh = false;
    private boolean clashIsFresh = false;

    public PanelOffice() {
    }

    public void trait(int t, int values) throws IllegalArgumentException, IllegalStateException {
        if (t < 0 || t >= TRAITS || values < 1 || values > MOST_VALUES || pool.highestValue(t) >= values) {
            throw new IllegalArgumentException("no such trait or number, or a person has a value beyond it");
        }
        requireOpen();
        pool.values[t] = values;
        changed();
    }

    public int person(int a, int b, int c) throws IllegalArgumentException, IllegalStateException {
        if (!pool.hasValue(0, a) || !pool.hasValue(1, b) || !pool.hasValue(2, c)) {
            throw new IllegalArgumentException("no such value");
        }
        requireOpen();
        int code = Pool.codeOf(a, b, c);
        if (!pool.hasRoomFor(code)) {
            throw new IllegalStateException("too many persons or kinds");
        }
        changed();
        return pool.add(code);
    }

    public void quota(int t, int value, int least, int most) throws IllegalArgumentException, IllegalStateException {
        if (!pool.hasValue(t, value) || least < 0 || least > most || most > MOST_MEMBERS) {
            throw new IllegalArgumentException("no such trait or value, or no such quota");
        }
        requireOpen();
        quotas.set(quotaOf(t, value), least, most);
        changed();
    }

    public void size(int n) throws IllegalArgumentException, IllegalStateException {
        if (n < 1 || n > MOST_MEMBERS) {
            throw new IllegalArgumentException("no such size");
        }
        requireOpen();
        size = n;
        changed();
    }

    public long count() throws UnsupportedOperationException {
        requireCountable();
        return tally.panels();
    }

    public int states() {
        refreshTally();
        return tally.isRefused() ? -1 : tally.statesFound();
    }

    public long chance(int person) throws IllegalArgumentException, UnsupportedOperationException {
        requirePerson(person);
        requireCountable();
        return tally.panelsWithOneOf(pool.kindOf(person));
    }

    public int kind(int person) throws IllegalArgumentException {
        if (person == NOBODY) {
            return pool.kinds;
        }
        requirePerson(person);
        return pool.kindOf(person);
    }

    public int blocked(int i) throws IllegalArgumentException, UnsupportedOperationException {
        requireIndex(i);
        requireCountable();
        if (tally.panels() > 0) {
            return -1;
        }
        if (!clashIsFresh) {
            clash.find(quotas, size);
            clashIsFresh = true;
            // The search has left its last trial in the tally.
            tallyIsFresh = false;
        }
        if (clash.isRefused()) {
            throw new UnsupportedOperationException("too many states without a quota");
        }
        return clash.nameOf(i);
    }

    public int panel(long rank, int i) throws IllegalArgumentException, UnsupportedOperationException {
        requirePlace(i);
        requireCountable();
        if (rank < 0 || rank >= tally.panels()) {
            throw new IllegalArgumentException("no panel has this rank");
        }
        ranking.tell(rank, told);
        return told[i];
    }

    public boolean mark(int person) throws IllegalArgumentException {
        requirePerson(person);
        marks ^= 1L << person;
        return isIn(marks, person);
    }

    public long rank() throws NoSuchElementException, UnsupportedOperationException {
        requireCountable();
        long rank = ranking.rankOf(marks);
        if (rank < 0) {
            throw new NoSuchElementException("those marked are no panel");
        }
        return rank;
    }

    public int dice(int sides) throws IllegalArgumentException, UnsupportedOperationException, IllegalStateException {
        if (sides < FEWEST_SIDES || sides > MOST_SIDES) {
            throw new IllegalArgumentException("no such dice");
        }
        requireCountable();
        long goal = goalNow();
        if (goal < 1) {
            throw new IllegalStateException("there is nothing to draw from");
        }
        return dice.begin(sides, goal);
    }

    public int roll(int side) throws IllegalStateException, IllegalArgumentException {
        if (!dice.awaitThrow()) {
            throw new IllegalStateException("no throw is due");
        }
        if (!dice.haveSide(side)) {
            throw new IllegalArgumentException("the dice have no such side");
        }
        return dice.take(side);
    }

    public long number() throws NoSuchElementException {
        if (!dice.haveNumber()) {
            throw new NoSuchElementException("there is no number");
        }
        return dice.made();
    }

    public void draw() throws IllegalStateException {
        requireOpen();
        requireNumber();
        // The tally is the one that the dice began with: each change since then would have ended the throws.
        ranking.tell(dice.made(), told);
        seats.fill(told, size);
        dice.end();
    }

    public int member(int i) throws IllegalStateException, IllegalArgumentException {
        requireDrawn();
        requirePlace(i);
        return seats.at(i);
    }

    public void dropOut(int person) throws IllegalStateException, NoSuchElementException {
        requireDrawn();
        if (seats.hasEmptyPlace()) {
            throw new IllegalStateException("a place is empty already");
        }
        if (!seats.isMember(person)) {
            throw new NoSuchElementException("that is no member");
        }
        seats.vacate(person);
        dice.end();
    }

    public int candidate(int i) throws IllegalArgumentException {
        requireIndex(i);
        return i < seats.listCandidates() ? seats.candidateAt(i) : NOBODY;
    }

    public int replace() throws IllegalStateException {
        if (!seats.hasEmptyPlace()) {
            throw new IllegalStateException("no place is empty");
        }
        requireNumber();
        int newcomer = seats.admitCandidate(dice.made());
        dice.end();
        return newcomer;
    }

    public int breach() throws IllegalStateException {
        requireDrawn();
        return seats.breachWith(NOBODY);
    }

    public void reset() {
        pool.clear();
        quotas.clear();
        seats.clear();
        size = 1;
        marks = 0;
        changed();
    }

    private void changed() {
        dice.end();
        tallyIsFresh = false;
        clashIsFresh = false;
    }

    private void refreshTally() {
        if (!tallyIsFresh) {
            tally.build(quotas, size);
            tallyIsFresh = true;
        }
    }

    private long goalNow() {
        return seats.areDrawn() ? seats.listCandidates() : tally.panels();
    }

    private void requireOpen() {
        if (seats.areDrawn()) {
            throw new IllegalStateException("the panel is drawn");
        }
    }

    private void requireDrawn() {
        if (!seats.areDrawn()) {
            throw new IllegalStateException("no panel is drawn");
        }
    }

    private void requireNumber() {
        if (!dice.haveNumber()) {
            throw new IllegalStateException("there is no number");
        }
    }

    private void requireCountable() {
        refreshTally();
        if (tally.isRefused()) {
            throw new UnsupportedOperationException("too many states");
        }
    }

    private void requirePerson(int person) {
        if (person < 0 || person >= pool.persons) {
            throw new IllegalArgumentException("no such person");
        }
    }

    private void requirePlace(int i) {
        if (i < 0 || i >= size) {
            throw new IllegalArgumentException("a panel has no such place");
        }
    }

    private static void requireIndex(int i) {
        if (i < 0) {
            throw new IllegalArgumentException("below 0");
        }
    }

    private static int quotaOf(int t, int value) {
        return t * MOST_VALUES + value;
    }

    private static boolean isIn(long set, int person) {
        return ((set >> person) & 1L) != 0;
    }

    /** The persons, and the kinds that they make, in the order of their values. */
    private static final class Pool {
        private static final int VALUE_BITS = 2;

        private final int[] values = {1, 1, 1};
        // A person's or kind's three values are one number, so that kinds are in the order of their codes.
        private final int[] codes = new int[MOST_PERSONS];
        private final int[] kindCodes = new int[MOST_KINDS];
        private final int[] kindSizes = new int[MOST_KINDS];
        private int persons = 0;
        private int kinds = 0;

        static int codeOf(int a, int b, int c) {
            return (((a << VALUE_BITS) + b) << VALUE_BITS) + c;
        }

        static int valueIn(int code, int t) {
            return (code >> (VALUE_BITS * (TRAITS - 1 - t))) & (MOST_VALUES - 1);
        }

        void clear() {
            Arrays.fill(values, 1);
            persons = 0;
            kinds = 0;
        }

        boolean hasValue(int t, int value) {
            return t >= 0 && t < TRAITS && value >= 0 && value < values[t];
        }

        int highestValue(int t) {
            int highest = -1;
            for (int k = 0; k < kinds; k++) {
                highest = Math.max(highest, valueIn(kindCodes[k], t));
            }
            return highest;
        }

        int kindOf(int person) {
            return kindsBelow(codes[person]);
        }

        boolean hasRoomFor(int code) {
            return persons < MOST_PERSONS && (kinds < MOST_KINDS || isKind(code));
        }

        int add(int code) {
            if (!isKind(code)) {
                insertKind(kindsBelow(code), code);
            }
            kindSizes[kindsBelow(code)]++;
            codes[persons] = code;
            return persons++;
        }

        private int kindsBelow(int code) {
            int below = 0;
            while (below < kinds && kindCodes[below] < code) {
                below++;
            }
            return below;
        }

        private boolean isKind(int code) {
            int k = kindsBelow(code);
            return k < kinds && kindCodes[k] == code;
        }

        private void insertKind(int at, int code) {
            for (int k = kinds; k > at; k--) {
                kindCodes[k] = kindCodes[k - 1];
                kindSizes[k] = kindSizes[k - 1];
            }
            kindCodes[at] = code;
            kindSizes[at] = 0;
            kinds++;
        }
    }

    /** Least and most of every value that a trait could have, also of those that there are none of now. */
    private static final class Quotas {
        private final int[] least = new int[QUOTAS];
        private final int[] most = new int[QUOTAS];

        Quotas() {
            Arrays.fill(most, MOST_MEMBERS);
        }

        void clear() {
            Arrays.fill(least, 0);
            Arrays.fill(most, MOST_MEMBERS);
        }

        void set(int q, int newLeast, int newMost) {
            least[q] = newLeast;
            most[q] = newMost;
        }

        void leaveOut(int q) {
            set(q, 0, MOST_MEMBERS);
        }

        boolean isLeftOut(int q) {
            return least[q] == 0 && most[q] == MOST_MEMBERS;
        }

        void copyOneFrom(Quotas other, int q) {
            set(q, other.least[q], other.most[q]);
        }

        int breachBy(int q, int members) {
            return Math.max(0, least[q] - members) + Math.max(0, members - most[q]);
        }
    }

    /**
     * The states behind each kind, and how many panels go through them. State 0 stands before the
     * first kind and does not count; layer k has the states behind k kinds.
     */
    private static final class Tally {
        private static final int ROOM = MOST_STATES + 1;
        private static final int SLOT_BITS = 11;
        private static final int SLOTS = 1 << SLOT_BITS;
        private static final long SPREAD = 0x9E3779B97F4A7C15L;
        private static final int ROW_BITS = 64;
        private static final int FIELD_BITS = 4;
        private static final int FIELD_MASK = 15;
        // Behind the fields of the values, a row has its number of members, then its layer.
        private static final int MEMBERS_FIELD = QUOTAS;
        private static final long ONE_MEMBER = 1L << (FIELD_BITS * MEMBERS_FIELD);
        private static final long ONE_LAYER = 1L << (FIELD_BITS * (MEMBERS_FIELD + 1));
        private static final int CHOICES = MOST_MEMBERS + 1;

        private final Pool pool;
        private final long[] rows = new long[ROOM];
        private final int[] takes = new int[ROOM];
        // A chain from stay[s] along more[] has the states that s leads to with 0, 1, 2.. of the next kind:
        // so two short rows do where a full table would need nine entries a state.
        private final int[] stay = new int[ROOM];
        private final int[] more = new int[ROOM];
        private final long[] ahead = new long[ROOM];
        private final long[] behind = new long[ROOM];
        private final int[] slots = new int[SLOTS];
        // Where each layer begins; it ends where the next one begins, the last one at found.
        private final int[] layers = new int[MOST_KINDS + 1];
        private final int[] chooses = new int[(MOST_PERSONS + 1) * CHOICES];
        private int found = 0;
        private boolean refused = false;
        private boolean behindIsFresh = false;

        Tally(Pool pool) {
            this.pool = pool;
            for (int n = 0; n <= MOST_PERSONS; n++) {
                chooses[n * CHOICES] = 1;
                for (int k = 1; k <= Math.min(n, MOST_MEMBERS); k++) {
                    chooses[n * CHOICES + k] = chooses[(n - 1) * CHOICES + k - 1] + chooses[(n - 1) * CHOICES + k];
                }
            }
        }

        boolean isRefused() {
            return refused;
        }

        int statesFound() {
            return found - 1;
        }

        long panels() {
            return ahead[0];
        }

        long choose(int n, int k) {
            return n < 0 || n > MOST_PERSONS || k < 0 || k > MOST_MEMBERS ? 0 : chooses[n * CHOICES + k];
        }

        void build(Quotas quotas, int size) {
            Arrays.fill(slots, -1);
            found = 0;
            refused = false;
            behindIsFresh = false;
            stateOf(0L);
            for (int k = 0; k < pool.kinds && !refused; k++) {
                layers[k + 1] = found;
                addLayer(k, quotas, size);
            }
            if (!refused) {
                countAhead(quotas, size);
            }
        }

        long panelsWithOneOf(int k) {
            if (!behindIsFresh) {
                countBehind();
                behindIsFresh = true;
            }
            long sum = 0;
            for (int s = layers[k]; s < layers[k + 1]; s++) {
                sum += behind[s] * aheadWithOneOf(s, pool.kindSizes[k]);
            }
            return sum;
        }

        private void addLayer(int k, Quotas quotas, int size) {
            long one = oneMoreOf(pool.kindCodes[k]);
            int end = found;
            for (int s = layers[k]; s < end && !refused; s++) {
                takes[s] = takesFrom(rows[s], k, quotas, size);
                int t = stateOf(rows[s] + ONE_LAYER);
                stay[s] = t;
                for (int j = 1; j <= takes[s] && !refused; j++) {
                    if (more[t] < 0) {
                        more[t] = stateOf(rows[t] + one);
                    }
                    t = more[t];
                }
            }
        }

        private int takesFrom(long row, int k, Quotas quotas, int size) {
            int room = Math.min(pool.kindSizes[k], size - field(row, MEMBERS_FIELD));
            for (int t = 0; t < TRAITS; t++) {
                int q = quotaOf(t, Pool.valueIn(pool.kindCodes[k], t));
                room = Math.min(room, quotas.most[q] - field(row, q));
            }
            return room;
        }

        private static long oneMoreOf(int code) {
            long one = ONE_MEMBER;
            for (int t = 0; t < TRAITS; t++) {
                one += 1L << (FIELD_BITS * quotaOf(t, Pool.valueIn(code, t)));
            }
            return one;
        }

        private static int field(long row, int at) {
            return (int) (row >> (FIELD_BITS * at)) & FIELD_MASK;
        }

        private int stateOf(long row) {
            int slot = (int) ((row * SPREAD) >>> (ROW_BITS - SLOT_BITS));
            for (int tries = 0; tries < SLOTS; tries++) {
                int s = slots[slot];
                if (s < 0) {
                    return enter(row, slot);
                }
                if (rows[s] == row) {
                    return s;
                }
                slot = (slot + 1) & (SLOTS - 1);
            }
            return 0;
        }

        private int enter(long row, int slot) {
            if (found >= ROOM) {
                refused = true;
                return 0;
            }
            slots[slot] = found;
            rows[found] = row;
            more[found] = -1;
            return found++;
        }

        private void countAhead(Quotas quotas, int size) {
            for (int s = layers[pool.kinds]; s < found; s++) {
                ahead[s] = isPanel(rows[s], quotas, size) ? 1 : 0;
            }
            for (int k = pool.kinds - 1; k >= 0; k--) {
                for (int s = layers[k]; s < layers[k + 1]; s++) {
                    ahead[s] = aheadWithAny(s, pool.kindSizes[k]);
                }
            }
        }

        private boolean isPanel(long row, Quotas quotas, int size) {
            boolean kept = field(row, MEMBERS_FIELD) == size;
            for (int t = 0; t < TRAITS; t++) {
                for (int v = 0; v < pool.values[t]; v++) {
                    int q = quotaOf(t, v);
                    kept = kept && field(row, q) >= quotas.least[q];
                }
            }
            return kept;
        }

        private long aheadWithAny(int s, int persons) {
            int t = stay[s];
            long sum = ahead[t];
            for (int j = 1; j <= takes[s]; j++) {
                t = more[t];
                sum += choose(persons, j) * ahead[t];
            }
            return sum;
        }

        private long aheadWithOneOf(int s, int persons) {
            int t = stay[s];
            long sum = 0;
            for (int j = 1; j <= takes[s]; j++) {
                t = more[t];
                sum += choose(persons - 1, j - 1) * ahead[t];
            }
            return sum;
        }

        private void countBehind() {
            Arrays.fill(behind, 0L);
            behind[0] = 1;
            for (int k = 0; k < pool.kinds; k++) {
                for (int s = layers[k]; s < layers[k + 1]; s++) {
                    passOn(s, pool.kindSizes[k]);
                }
            }
        }

        private void passOn(int s, int persons) {
            int t = stay[s];
            behind[t] += behind[s];
            for (int j = 1; j <= takes[s]; j++) {
                t = more[t];
                behind[t] += choose(persons, j) * behind[s];
            }
        }
    }

    /** From a panel's rank to its members and back. Only for a tally that is not refused. */
    private static final class Ranking {
        private final Pool pool;
        private final Tally tally;

        Ranking(Pool pool, Tally tally) {
            this.pool = pool;
            this.tally = tally;
        }

        /** The rank must be one that there is. */
        void tell(long rank, int[] into) {
            long rest = rank;
            int s = 0;
            int filled = 0;
            for (int k = 0; k < pool.kinds; k++) {
                int t = tally.stay[s];
                int members = 0;
                long block = tally.ahead[t];
                while (members < tally.takes[s] && rest >= block) {
                    rest -= block;
                    members++;
                    t = tally.more[t];
                    block = tally.choose(pool.kindSizes[k], members) * tally.ahead[t];
                }
                // A rank that there is never leads to a state without a panel ahead.
                long each = Math.max(1L, tally.ahead[t]);
                tellKind(k, members, rest / each, into, filled);
                rest %= each;
                filled += members;
                s = t;
            }
        }

        private void tellKind(int k, int members, long index, int[] into, int from) {
            long rest = index;
            int behind = pool.kindSizes[k];
            int left = members;
            for (int p = 0; p < pool.persons && left > 0; p++) {
                if (pool.codes[p] == pool.kindCodes[k]) {
                    behind--;
                    long with = tally.choose(behind, left - 1);
                    if (rest < with) {
                        into[from + members - left] = p;
                        left--;
                    } else {
                        rest -= with;
                    }
                }
            }
        }

        /** -1 if the persons of the set are no panel. */
        long rankOf(long set) {
            long rank = 0;
            int s = 0;
            for (int k = 0; k < pool.kinds; k++) {
                int members = membersOf(k, set);
                if (members > tally.takes[s]) {
                    return -1;
                }
                int t = tally.stay[s];
                for (int j = 0; j < members; j++) {
                    rank += tally.choose(pool.kindSizes[k], j) * tally.ahead[t];
                    t = tally.more[t];
                }
                rank += indexIn(k, members, set) * tally.ahead[t];
                s = t;
            }
            return tally.ahead[s] > 0 ? rank : -1;
        }

        private int membersOf(int k, long set) {
            int members = 0;
            for (int p = 0; p < pool.persons; p++) {
                if (pool.codes[p] == pool.kindCodes[k] && isIn(set, p)) {
                    members++;
                }
            }
            return members;
        }

        private long indexIn(int k, int members, long set) {
            long index = 0;
            int behind = pool.kindSizes[k];
            int left = members;
            for (int p = 0; p < pool.persons && left > 0; p++) {
                if (pool.codes[p] == pool.kindCodes[k]) {
                    behind--;
                    if (isIn(set, p)) {
                        left--;
                    } else {
                        index += tally.choose(behind, left - 1);
                    }
                }
            }
            return index;
        }
    }

    /** The search for the quotas that block every panel. It uses the office's tally for its trials. */
    private static final class Clash {
        private final Pool pool;
        private final Tally tally;
        private final Quotas trial = new Quotas();
        private final int[] names = new int[QUOTAS];
        private int found = 0;
        private boolean refused = false;

        Clash(Pool pool, Tally tally) {
            this.pool = pool;
            this.tally = tally;
        }

        boolean isRefused() {
            return refused;
        }

        int nameOf(int i) {
            return i >= 0 && i < found ? names[i] : -1;
        }

        void find(Quotas quotas, int size) {
            found = 0;
            refused = false;
            for (int q = 0; q < QUOTAS; q++) {
                trial.copyOneFrom(quotas, q);
            }
            for (int t = 0; t < TRAITS; t++) {
                for (int v = 0; v < pool.values[t] && !refused; v++) {
                    if (!quotas.isLeftOut(quotaOf(t, v))) {
                        tryWithout(t, v, quotas, size);
                    }
                }
            }
        }

        private void tryWithout(int t, int v, Quotas quotas, int size) {
            int q = quotaOf(t, v);
            trial.leaveOut(q);
            tally.build(trial, size);
            if (tally.isRefused()) {
                refused = true;
            } else if (tally.panels() > 0) {
                trial.copyOneFrom(quotas, q);
                names[found] = 10 * t + v;
                found++;
            }
        }
    }

    /** Throws of dice that make a number below a goal, each number as likely as any other. */
    private static final class Dice {
        // Twenty-seven throws of two sides are enough for all panels of 8 out of 40.
        private static final int MOST_THROWS = 27;

        private boolean begun = false;
        private boolean done = false;
        private int sides = FEWEST_SIDES;
        private long goal = 1;
        private long outcomes = 1;
        private int needed = 0;
        private int thrown = 0;
        private long value = 0;

        int begin(int newSides, long newGoal) {
            sides = newSides;
            goal = Math.max(1L, newGoal);
            outcomes = 1;
            needed = 0;
            while (outcomes < goal && needed < MOST_THROWS) {
                outcomes *= sides;
                needed++;
            }
            thrown = 0;
            value = 0;
            begun = true;
            done = needed == 0;
            return needed;
        }

        void end() {
            begun = false;
            done = false;
        }

        boolean awaitThrow() {
            return begun && !done;
        }

        boolean haveSide(int side) {
            return side >= 1 && side <= sides;
        }

        boolean haveNumber() {
            return done;
        }

        long made() {
            return value;
        }

        int take(int side) {
            value = value * sides + side - 1;
            thrown++;
            if (thrown < needed) {
                return 0;
            }
            if (value >= outcomes - outcomes % goal) {
                thrown = 0;
                value = 0;
                return 2;
            }
            value %= goal;
            done = true;
            return 1;
        }
    }

    /** The panel drawn, those who left it, and those who could come. */
    private static final class Seats {
        private final Pool pool;
        private final Quotas quotas;
        private final int[] members = new int[MOST_MEMBERS];
        private final int[] numbers = new int[QUOTAS];
        private final int[] candidates = new int[MOST_PERSONS];
        private int places = 0;
        private long seated = 0;
        private long gone = 0;
        private int emptyPlace = -1;

        Seats(Pool pool, Quotas quotas) {
            this.pool = pool;
            this.quotas = quotas;
        }

        void clear() {
            places = 0;
            seated = 0;
            gone = 0;
            emptyPlace = -1;
        }

        void fill(int[] panel, int size) {
            places = Math.min(size, MOST_MEMBERS);
            for (int i = 0; i < places; i++) {
                members[i] = panel[i];
                seated |= 1L << panel[i];
            }
        }

        boolean areDrawn() {
            return places > 0;
        }

        boolean hasEmptyPlace() {
            return emptyPlace >= 0;
        }

        int at(int i) {
            return members[i];
        }

        boolean isMember(int person) {
            return person >= 0 && person < pool.persons && isIn(seated, person);
        }

        void vacate(int person) {
            for (int i = 0; i < places; i++) {
                if (members[i] == person) {
                    members[i] = NOBODY;
                    emptyPlace = i;
                }
            }
            seated &= ~(1L << person);
            gone |= 1L << person;
        }

        int admitCandidate(long number) {
            long last = listCandidates() - 1;
            int newcomer = candidates[(int) Math.max(0L, Math.min(number, last))];
            members[emptyPlace] = newcomer;
            seated |= 1L << newcomer;
            emptyPlace = -1;
            return newcomer;
        }

        int candidateAt(int i) {
            return candidates[i];
        }

        int listCandidates() {
            if (!hasEmptyPlace()) {
                return 0;
            }
            int listed = 0;
            int least = 0;
            for (int p = 0; p < pool.persons; p++) {
                if (!isIn(seated | gone, p)) {
                    int breach = breachWith(p);
                    if (listed == 0 || breach < least) {
                        least = breach;
                        listed = 0;
                    }
                    if (breach == least) {
                        candidates[listed] = p;
                        listed++;
                    }
                }
            }
            return listed;
        }

        /** The breach as it would be with one person more, or as it is, with NOBODY. */
        int breachWith(int newcomer) {
            Arrays.fill(numbers, 0);
            for (int i = 0; i < places; i++) {
                addValuesOf(members[i]);
            }
            addValuesOf(newcomer);
            int sum = 0;
            for (int t = 0; t < TRAITS; t++) {
                for (int v = 0; v < pool.values[t]; v++) {
                    int q = quotaOf(t, v);
                    sum += quotas.breachBy(q, numbers[q]);
                }
            }
            return sum;
        }

        private void addValuesOf(int person) {
            if (person != NOBODY) {
                for (int t = 0; t < TRAITS; t++) {
                    numbers[quotaOf(t, Pool.valueIn(pool.codes[person], t))]++;
                }
            }
        }
    }
}
