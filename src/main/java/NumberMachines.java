import java.util.Arrays;

/**
 * Sets of whole numbers that come round, and the least machines that know them.
 * Words in capitals (SET, SLOT, START, PERIOD, BASE, FIGURE, REST, STATE, GOOD, LARGE) are the document's terms.
 */
public final class NumberMachines {
    public static final int UNKNOWN = -1, OUTSIDE = -2, AMISS = -3, FULL = -4, NONE = -6;

    private static final int SLOTS = 6;
    private static final int IMAGES = 2;
    private static final int FIRST_BASE = 2;
    private static final int MOST_BASE = 5;

    private static final int MOST_START = 120;
    private static final int MOST_PERIOD = 60;
    private static final int MOST_STATES = 64;

    private static final int MOST_NUMBER = 1000000000;
    private static final int MOST_PUT = 100;
    private static final int MOST_SHIFT = 100;
    private static final int MOST_TIMES = 12;
    private static final int MOST_ADDED = 20;
    private static final int MOST_READ = 40;

    private static final int ALONE = 0, NO_LESS = 1, REMAINDER = 2, NOTHING = 3, ALL = 4;
    private static final int ANY = 0, BOTH = 1, FIRST_ONLY = 2, JUST_ONE = 3;

    private static final int WORD_BITS = 64;
    private static final int WORD_SHIFT = 6;
    /** So many words hold START and PERIOD of every SET that is not LARGE. */
    private static final int WORDS = (MOST_START + MOST_PERIOD) / WORD_BITS + 1;
    /** A join asks for the longest draft: it comes round by at most the product of two PERIODS. */
    private static final int DRAFT_WORDS = (MOST_START + MOST_PERIOD * MOST_PERIOD) / WORD_BITS + 1;

    private final Round[] slots = new Round[SLOTS];
    private final Image[] images = new Image[IMAGES];
    private final Draft draft = new Draft();
    private final Tracer tracer = new Tracer();
    private int base;

    public NumberMachines() {
        for (int k = 0; k < IMAGES; k++) {
            images[k] = new Image();
        }
        emptyAll(FIRST_BASE);
    }

    // ---- sets

    public int base(int n) {
        if (n != 2 && n != 3 && n != 5) {
            return OUTSIDE;
        }
        int before = base;
        emptyAll(n);
        return before;
    }

    public int put(int to, int kind, int a, int m) {
        if (unknown(to)) {
            return UNKNOWN;
        }
        if (!within(kind, ALONE, ALL)) {
            return OUTSIDE;
        }
        if (kind != NOTHING && kind != ALL && !within(a, 0, MOST_PUT)) {
            return OUTSIDE;
        }
        if (kind == REMAINDER && !within(m, 1, MOST_PERIOD)) {
            return OUTSIDE;
        }
        draftKind(kind, a, m);
        return hold(to);
    }

    public int join(int to, int one, int other, int way) {
        if (unknown(to) || unknown(one) || unknown(other)) {
            return UNKNOWN;
        }
        if (!within(way, ANY, JUST_ONE)) {
            return OUTSIDE;
        }
        draftJoin(slots[one], slots[other], way);
        return hold(to);
    }

    public int turn(int to, int from) {
        if (unknown(to) || unknown(from)) {
            return UNKNOWN;
        }
        draftTurn(slots[from]);
        return hold(to);
    }

    public int shift(int to, int from, int c) {
        if (unknown(to) || unknown(from)) {
            return UNKNOWN;
        }
        if (!within(c, -MOST_SHIFT, MOST_SHIFT)) {
            return OUTSIDE;
        }
        draftShift(slots[from], c);
        return hold(to);
    }

    public int stretch(int to, int from, int c, int d) {
        if (unknown(to) || unknown(from)) {
            return UNKNOWN;
        }
        if (!within(c, 1, MOST_TIMES) || !within(d, 0, MOST_ADDED)) {
            return OUTSIDE;
        }
        draftStretch(slots[from], c, d);
        return hold(to);
    }

    public int shrink(int to, int from, int c, int d) {
        if (unknown(to) || unknown(from)) {
            return UNKNOWN;
        }
        if (!within(c, 1, MOST_TIMES) || !within(d, 0, MOST_ADDED)) {
            return OUTSIDE;
        }
        draftShrink(slots[from], c, d);
        return hold(to);
    }

    // ---- what is told

    public int told(int slot, int what) {
        if (unknown(slot)) {
            return UNKNOWN;
        }
        Round set = slots[slot];
        switch (what) {
            case 0: return set.start;
            case 1: return set.period;
            case 2: return set.machine.states;
            case 3: return Long.bitCount(set.machine.good);
            case 4: return set.numbersBefore(set.start);
            case 5: return set.numbersBefore(set.start + set.period) - set.numbersBefore(set.start);
            default: return OUTSIDE;
        }
    }

    public int state(int slot, int i, int what) {
        if (unknown(slot) || !within(i, 0, slots[slot].machine.states - 1)) {
            return UNKNOWN;
        }
        Machine machine = slots[slot].machine;
        switch (what) {
            case 0: case 1: case 2: case 3: case 4:
                return what < base ? machine.after(i, what) : AMISS;
            case 5: return truth(machine.isGood(i));
            case 6: return machine.steps(1L, 1L << i);
            case 7: return machine.steps(1L << i, machine.good);
            default: return OUTSIDE;
        }
    }

    public int walk(int slot, int number, int n) {
        if (unknown(slot)) {
            return UNKNOWN;
        }
        if (!within(n, 0, MOST_READ) || number < 0) {
            return OUTSIDE;
        }
        return slots[slot].machine.read(number, n);
    }

    public int has(int slot, int number) {
        if (unknown(slot)) {
            return UNKNOWN;
        }
        if (!within(number, 0, MOST_NUMBER)) {
            return OUTSIDE;
        }
        return truth(slots[slot].holds(number));
    }

    public int next(int slot, int number) {
        if (unknown(slot)) {
            return UNKNOWN;
        }
        if (!within(number, 0, MOST_NUMBER)) {
            return OUTSIDE;
        }
        return slots[slot].leastFrom(number);
    }

    public int below(int slot, int number) {
        if (unknown(slot)) {
            return UNKNOWN;
        }
        if (!within(number, 0, MOST_NUMBER)) {
            return OUTSIDE;
        }
        return slots[slot].numbersBefore(number);
    }

    public int alike(int one, int other, int what) {
        if (unknown(one) || unknown(other)) {
            return UNKNOWN;
        }
        Round first = slots[one];
        Round second = slots[other];
        switch (what) {
            case 0: return truth(first.sameAs(second));
            case 1: return truth(leastJoined(first, second, FIRST_ONLY) == NONE);
            case 2: return truth(leastJoined(first, second, BOTH) == NONE);
            case 3: return leastJoined(first, second, JUST_ONE);
            case 4: return leastJoined(first, second, BOTH);
            default: return OUTSIDE;
        }
    }

    // ---- images

    public int image(int k) {
        if (noImage(k)) {
            return OUTSIDE;
        }
        images[k].keep(slots, base);
        return 1;
    }

    public int restore(int k) {
        if (noImage(k)) {
            return OUTSIDE;
        }
        if (!images[k].kept) {
            return AMISS;
        }
        base = images[k].giveBack(slots);
        return 1;
    }

    public int count(int what) {
        switch (what) {
            case 0: return slotsWithNumbers();
            case 1: return unlikeSets();
            case 2: return base;
            case 3: return statesOfAll();
            case 4: return imagesKept();
            default: return OUTSIDE;
        }
    }

    // ---- what the calls are made of

    private boolean unknown(int slot) {
        return slot < 0 || slot >= SLOTS || slots[slot] == null;
    }

    private boolean noImage(int k) {
        return k < 0 || k >= IMAGES || images[k] == null;
    }

    private static boolean within(int n, int least, int most) {
        return least <= n && n <= most;
    }

    private static int truth(boolean so) {
        return so ? 1 : 0;
    }

    private void emptyAll(int newBase) {
        base = newBase;
        draft.open(0, 1);
        Round none = drafted();
        for (int slot = 0; slot < SLOTS; slot++) {
            slots[slot] = none;
        }
    }

    private int hold(int to) {
        Round made = drafted();
        if (made == null) {
            return FULL;
        }
        slots[to] = made;
        return made.machine.states;
    }

    /** The SET that the draft tells, or null if it is LARGE. */
    private Round drafted() {
        if (!draft.reduce() || !tracer.trace(draft, base)) {
            return null;
        }
        return new Round(draft, tracer.machine());
    }

    private void draftKind(int kind, int a, int m) {
        if (kind == ALONE) {
            draft.open(a + 1, 1);
            draft.mark(a);
        } else if (kind == NO_LESS) {
            draft.open(a, 1);
            draft.mark(a);
        } else if (kind == REMAINDER && m > 0) {
            draft.open(0, m);
            draft.mark(a % m);
        } else {
            draft.open(0, 1);
            if (kind == ALL) {
                draft.mark(0);
            }
        }
    }

    private void draftJoin(Round one, Round other, int way) {
        draft.open(Math.max(one.start, other.start), leastCommon(one.period, other.period));
        int i = 0;
        int j = 0;
        for (int n = 0; n < draft.length(); n++) {
            if (joined(one.at(i), other.at(j), way)) {
                draft.mark(n);
            }
            i = one.placeAfter(i);
            j = other.placeAfter(j);
        }
    }

    private void draftTurn(Round from) {
        draft.open(from.start, from.period);
        for (int n = 0; n < draft.length(); n++) {
            if (!from.at(n)) {
                draft.mark(n);
            }
        }
    }

    private void draftShift(Round from, int c) {
        draft.open(Math.max(0, from.start + c), from.period);
        for (int n = Math.max(0, c); n < draft.length(); n++) {
            if (from.holds(n - c)) {
                draft.mark(n);
            }
        }
    }

    private void draftStretch(Round from, int c, int d) {
        draft.open(c * from.start + d, c * from.period);
        for (int n = 0; n < from.start + from.period; n++) {
            if (from.at(n)) {
                draft.mark(c * n + d);
            }
        }
    }

    private void draftShrink(Round from, int c, int d) {
        draft.open(from.start, from.period);
        for (int n = 0; n < draft.length(); n++) {
            if (from.holds(c * n + d)) {
                draft.mark(n);
            }
        }
    }

    private static boolean joined(boolean inOne, boolean inOther, int way) {
        switch (way) {
            case ANY: return inOne || inOther;
            case BOTH: return inOne && inOther;
            case FIRST_ONLY: return inOne && !inOther;
            default: return inOne != inOther;
        }
    }

    /** From both STARTS on, all comes round by the least common PERIOD: no look beyond that is needed. */
    private static int leastJoined(Round one, Round other, int way) {
        int end = Math.max(one.start, other.start) + leastCommon(one.period, other.period);
        int i = 0;
        int j = 0;
        for (int n = 0; n < end; n++) {
            if (joined(one.at(i), other.at(j), way)) {
                return n;
            }
            i = one.placeAfter(i);
            j = other.placeAfter(j);
        }
        return NONE;
    }

    private static int leastCommon(int one, int other) {
        if (one < 1 || other < 1) {
            return 1;
        }
        for (int times = 1; times < other; times++) {
            if (one * times % other == 0) {
                return one * times;
            }
        }
        return one * other;
    }

    private int slotsWithNumbers() {
        int found = 0;
        for (int slot = 0; slot < SLOTS; slot++) {
            if (!unknown(slot) && slots[slot].leastFrom(0) != NONE) {
                found++;
            }
        }
        return found;
    }

    private int unlikeSets() {
        int found = 0;
        for (int slot = 0; slot < SLOTS; slot++) {
            if (!unknown(slot) && !heldBefore(slot)) {
                found++;
            }
        }
        return found;
    }

    private boolean heldBefore(int slot) {
        for (int earlier = 0; earlier < slot; earlier++) {
            if (!unknown(earlier) && slots[earlier].sameAs(slots[slot])) {
                return true;
            }
        }
        return false;
    }

    private int statesOfAll() {
        int sum = 0;
        for (int slot = 0; slot < SLOTS; slot++) {
            if (!unknown(slot)) {
                sum += slots[slot].machine.states;
            }
        }
        return sum;
    }

    private int imagesKept() {
        int sum = 0;
        for (int k = 0; k < IMAGES; k++) {
            if (!noImage(k) && images[k].kept) {
                sum += 1 << k;
            }
        }
        return sum;
    }

    /** A SET that is not LARGE. It never changes, so that SLOTS and IMAGES may share it. */
    private static final class Round {
        private final int start;
        private final int period;
        private final long[] row;
        private final Machine machine;

        Round(Draft draft, Machine machine) {
            this.start = draft.start;
            this.period = draft.period;
            this.row = Arrays.copyOf(draft.row, WORDS);
            this.machine = machine;
        }

        boolean holds(int n) {
            return at(folded(n, start, period));
        }

        /** Places are the NUMBERS below START and PERIOD, added: each stands for all that come round to it. */
        boolean at(int place) {
            return bit(row, place);
        }

        int placeAfter(int place) {
            return place + 1 < start + period ? place + 1 : start;
        }

        int leastFrom(int number) {
            for (int ahead = 0; ahead < start + period; ahead++) {
                if (holds(number + ahead)) {
                    return number + ahead;
                }
            }
            return NONE;
        }

        int numbersBefore(int number) {
            if (number <= start + period || period < 1) {
                return placesBefore(number);
            }
            int eachRound = placesBefore(start + period) - placesBefore(start);
            int rounds = (number - start) / period;
            return placesBefore(start + (number - start) % period) + rounds * eachRound;
        }

        private int placesBefore(int end) {
            int found = 0;
            for (int place = 0; place < end && place < start + period; place++) {
                if (at(place)) {
                    found++;
                }
            }
            return found;
        }

        /** START and PERIOD are the least, and nothing stands behind them in a row: like SETS have like fields. */
        boolean sameAs(Round other) {
            if (start != other.start || period != other.period) {
                return false;
            }
            for (int word = 0; word < row.length && word < other.row.length; word++) {
                if (row[word] != other.row[word]) {
                    return false;
                }
            }
            return true;
        }
    }

    /** The STATES of a SET, and where each goes. At most 64 are there, so that a long is a set of STATES. */
    private static final class Machine {
        private final int base;
        private final int states;
        private final int[] goes;
        private final long good;

        Machine(int base, int states, int[] goes, long good) {
            this.base = base;
            this.states = states;
            this.goes = goes;
            this.good = good;
        }

        int after(int state, int figure) {
            int place = state * base + figure;
            return place >= 0 && place < goes.length ? goes[place] : 0;
        }

        boolean isGood(int state) {
            return (good >>> state & 1L) != 0L;
        }

        int read(int number, int figures) {
            int state = 0;
            int left = number;
            for (int k = 0; k < figures && base > 1; k++) {
                state = after(state, left % base);
                left = left / base;
            }
            return state;
        }

        /** The least number of steps by which any of some STATES comes to any of others; NONE: there is no way. */
        int steps(long from, long to) {
            long reached = from;
            for (int taken = 0; taken < MOST_STATES; taken++) {
                if ((reached & to) != 0L) {
                    return taken;
                }
                reached |= afterAnyOf(reached);
            }
            return NONE;
        }

        private long afterAnyOf(long some) {
            long reached = 0L;
            for (int state = 0; state < states; state++) {
                if ((some >>> state & 1L) != 0L) {
                    for (int figure = 0; figure < base; figure++) {
                        reached |= 1L << after(state, figure);
                    }
                }
            }
            return reached;
        }
    }

    /** A SET in the making: its start and period need not be the least, and it may be LARGE. */
    private static final class Draft {
        private final long[] row = new long[DRAFT_WORDS];
        private int start;
        private int period;

        void open(int newStart, int newPeriod) {
            start = Math.max(0, newStart);
            period = Math.max(1, newPeriod);
            Arrays.fill(row, 0L);
        }

        int length() {
            return start + period;
        }

        void mark(int n) {
            setBit(row, n);
        }

        /** Makes start and period the least; false if one of them is too great. */
        boolean reduce() {
            int least = leastPeriod();
            if (least == 0) {
                return false;
            }
            period = least;
            start = leastStart();
            clearBehind();
            return start <= MOST_START;
        }

        /** The PERIOD divides every number by which a SET comes round, so others are not tried; 0: it is too great. */
        private int leastPeriod() {
            for (int p = 1; p <= period && p <= MOST_PERIOD; p++) {
                if (period % p == 0 && comesRoundBy(p)) {
                    return p;
                }
            }
            return 0;
        }

        private boolean comesRoundBy(int p) {
            for (int n = start; n + p < length(); n++) {
                if (bit(row, n) != bit(row, n + p)) {
                    return false;
                }
            }
            return true;
        }

        private int leastStart() {
            int least = start;
            while (least > 0 && bit(row, least - 1) == bit(row, least - 1 + period)) {
                least--;
            }
            return least;
        }

        private void clearBehind() {
            for (int n = length(); n < WORDS * WORD_BITS; n++) {
                clearBit(row, n);
            }
        }
    }

    /**
     * Finds the STATES of a SET. Every REST comes round as the SET does, if not sooner, so that a row of START and
     * PERIOD bits tells it whole, and two STATES are the same if their rows are.
     */
    private static final class Tracer {
        /** One row more than there may be STATES: a REST is written behind the last one and then looked for. */
        private final long[] rows = new long[(MOST_STATES + 1) * WORDS];
        private final int[] goes = new int[MOST_STATES * MOST_BASE];
        private int base;
        private int start;
        private int period;
        private int found;

        /** False if there are too many STATES, or if the SET is too long for a row. */
        boolean trace(Draft set, int newBase) {
            if (set.start > MOST_START || set.period > MOST_PERIOD) {
                return false;
            }
            base = Math.min(newBase, MOST_BASE);
            start = set.start;
            period = set.period;
            System.arraycopy(set.row, 0, rows, 0, WORDS);
            found = 1;
            for (int state = 0; state < found && state < MOST_STATES; state++) {
                for (int figure = 0; figure < base; figure++) {
                    writeRest(state, figure);
                    int rest = metAs();
                    if (rest == MOST_STATES) {
                        return false;
                    }
                    goes[state * base + figure] = rest;
                    found = Math.max(found, rest + 1);
                }
            }
            return true;
        }

        Machine machine() {
            long good = 0L;
            for (int state = 0; state < found; state++) {
                good |= (rows[state * WORDS] & 1L) << state;
            }
            return new Machine(base, found, Arrays.copyOf(goes, found * base), good);
        }

        private void writeRest(int state, int figure) {
            int from = state * WORDS;
            int to = found * WORDS;
            for (int word = 0; word < WORDS; word++) {
                rows[to + word] = 0L;
            }
            int place = folded(figure, start, period);
            for (int u = 0; u < start + period; u++) {
                rows[to + (u >> WORD_SHIFT)] |= (rows[from + (place >> WORD_SHIFT)] >>> place & 1L) << u;
                place = folded(place + base, start, period);
            }
        }

        private int metAs() {
            int state = 0;
            while (state < found && !sameRows(state, found)) {
                state++;
            }
            return state;
        }

        private boolean sameRows(int one, int other) {
            for (int word = 0; word < WORDS; word++) {
                if (rows[one * WORDS + word] != rows[other * WORDS + word]) {
                    return false;
                }
            }
            return true;
        }
    }

    /** What was kept of SLOTS and BASE. */
    private static final class Image {
        private final Round[] sets = new Round[SLOTS];
        private int keptBase = FIRST_BASE;
        private boolean kept = false;

        void keep(Round[] slots, int base) {
            copySets(slots, sets);
            keptBase = base;
            kept = true;
        }

        int giveBack(Round[] slots) {
            copySets(sets, slots);
            return keptBase;
        }

        private static void copySets(Round[] from, Round[] to) {
            for (int slot = 0; slot < from.length && slot < to.length; slot++) {
                to[slot] = from[slot];
            }
        }
    }

    /** The place of a NUMBER in a row that comes round by a period from a start on. */
    private static int folded(int n, int start, int period) {
        return n < start + period || period < 1 ? n : start + (n - start) % period;
    }

    private static boolean bit(long[] row, int n) {
        int word = n >> WORD_SHIFT;
        return word >= 0 && word < row.length && (row[word] >>> n & 1L) != 0L;
    }

    private static void setBit(long[] row, int n) {
        int word = n >> WORD_SHIFT;
        if (word >= 0 && word < row.length) {
            row[word] |= 1L << n;
        }
    }

    private static void clearBit(long[] row, int n) {
        int word = n >> WORD_SHIFT;
        if (word >= 0 && word < row.length) {
            row[word] &= ~(1L << n);
        }
    }
}
