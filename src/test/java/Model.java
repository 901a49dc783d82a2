import java.util.HashSet;
import java.util.Set;
import java.util.function.IntPredicate;

/** The document's words done as they stand, slowly: what NumberMachines is compared with. */
final class Model {
    private static final int UNKNOWN = -1, OUTSIDE = -2, AMISS = -3, FULL = -4, NONE = -6;

    private int base = 2;
    private Known[] slots = new Known[6];
    private final Known[][] kept = new Known[2][];
    private final int[] keptBase = new int[2];

    Model() {
        empty();
    }

    private void empty() {
        for (int slot = 0; slot < 6; slot++) {
            hold(slot, n -> false, 0, 1);
        }
    }

    private static boolean slot(int slot) {
        return slot >= 0 && slot < 6;
    }

    private static boolean within(int n, int least, int most) {
        return n >= least && n <= most;
    }

    private int hold(int to, IntPredicate so, int from, int by) {
        Known made = Known.of(so, from, by);
        if (made.period > 60 || made.start > 120 || !made.trace(base, 64)) {
            return FULL;
        }
        slots[to] = made;
        return made.goes.size();
    }

    int base(int n) {
        if (n != 2 && n != 3 && n != 5) {
            return OUTSIDE;
        }
        int was = base;
        base = n;
        slots = new Known[6];
        empty();
        return was;
    }

    int put(int to, int kind, int a, int m) {
        if (!slot(to)) {
            return UNKNOWN;
        }
        if (!within(kind, 0, 4) || kind < 3 && !within(a, 0, 100) || kind == 2 && !within(m, 1, 60)) {
            return OUTSIDE;
        }
        switch (kind) {
            case 0: return hold(to, n -> n == a, 101, 1);
            case 1: return hold(to, n -> n >= a, 101, 1);
            case 2: return hold(to, n -> n % m == a % m, 0, m);
            case 3: return hold(to, n -> false, 0, 1);
            default: return hold(to, n -> true, 0, 1);
        }
    }

    int join(int to, int one, int other, int way) {
        if (!slot(to) || !slot(one) || !slot(other)) {
            return UNKNOWN;
        }
        if (!within(way, 0, 3)) {
            return OUTSIDE;
        }
        Known a = slots[one];
        Known b = slots[other];
        return hold(to, n -> {
            boolean p = a.holds(n);
            boolean q = b.holds(n);
            return way == 0 ? p | q : way == 1 ? p & q : way == 2 ? p & !q : p ^ q;
        }, 120, a.period * b.period);
    }

    int turn(int to, int from) {
        if (!slot(to) || !slot(from)) {
            return UNKNOWN;
        }
        Known a = slots[from];
        return hold(to, n -> !a.holds(n), 120, a.period);
    }

    int shift(int to, int from, int c) {
        if (!slot(to) || !slot(from)) {
            return UNKNOWN;
        }
        if (!within(c, -100, 100)) {
            return OUTSIDE;
        }
        Known a = slots[from];
        return hold(to, n -> n >= c && a.holds(n - c), 220, a.period);
    }

    int stretch(int to, int from, int c, int d) {
        if (!slot(to) || !slot(from)) {
            return UNKNOWN;
        }
        if (!within(c, 1, 12) || !within(d, 0, 20)) {
            return OUTSIDE;
        }
        Known a = slots[from];
        return hold(to, n -> n >= d && (n - d) % c == 0 && a.holds((n - d) / c), 12 * 120 + 20, a.period * c);
    }

    int shrink(int to, int from, int c, int d) {
        if (!slot(to) || !slot(from)) {
            return UNKNOWN;
        }
        if (!within(c, 1, 12) || !within(d, 0, 20)) {
            return OUTSIDE;
        }
        Known a = slots[from];
        return hold(to, n -> a.holds((long) c * n + d), 120, a.period);
    }

    int told(int slot, int what) {
        if (!slot(slot)) {
            return UNKNOWN;
        }
        Known a = slots[slot];
        int early = 0;
        int late = 0;
        for (int n = 0; n < a.start + a.period; n++) {
            early += a.in[n] && n < a.start ? 1 : 0;
            late += a.in[n] && n >= a.start ? 1 : 0;
        }
        int good = 0;
        for (boolean one : a.good) {
            good += one ? 1 : 0;
        }
        int[] all = {a.start, a.period, a.goes.size(), good, early, late};
        return within(what, 0, 5) ? all[what] : OUTSIDE;
    }

    int state(int slot, int i, int what) {
        if (!slot(slot) || !within(i, 0, slots[slot].goes.size() - 1)) {
            return UNKNOWN;
        }
        if (!within(what, 0, 7)) {
            return OUTSIDE;
        }
        Known a = slots[slot];
        if (what < 5) {
            return what < base ? a.goes.get(i)[what] : AMISS;
        }
        if (what == 5) {
            return a.good.get(i) ? 1 : 0;
        }
        if (what == 6) {
            return a.steps(0, n -> n == i);
        }
        return a.steps(i, n -> a.good.get(n));
    }

    int walk(int slot, int number, int n) {
        if (!slot(slot)) {
            return UNKNOWN;
        }
        if (!within(n, 0, 40) || number < 0) {
            return OUTSIDE;
        }
        String figures = "0".repeat(40) + Integer.toString(number, base);
        int at = 0;
        for (int k = 0; k < n; k++) {
            at = slots[slot].goes.get(at)[figures.charAt(figures.length() - 1 - k) - '0'];
        }
        return at;
    }

    int has(int slot, int number) {
        if (!slot(slot)) {
            return UNKNOWN;
        }
        return within(number, 0, 1000000000) ? slots[slot].holds(number) ? 1 : 0 : OUTSIDE;
    }

    int next(int slot, int number) {
        if (!slot(slot)) {
            return UNKNOWN;
        }
        if (!within(number, 0, 1000000000)) {
            return OUTSIDE;
        }
        for (int n = number; n < number + 500; n++) {
            if (slots[slot].holds(n)) {
                return n;
            }
        }
        return NONE;
    }

    int below(int slot, int number) {
        if (!slot(slot)) {
            return UNKNOWN;
        }
        if (!within(number, 0, 1000000000)) {
            return OUTSIDE;
        }
        // whole PERIODS are taken off until few NUMBERS are left, which are gone through
        Known a = slots[slot];
        int whole = Math.max(0, number - 400) / a.period;
        int left = number - whole * a.period;
        int found = whole * told(slot, 5);
        for (int n = 0; n < left; n++) {
            found += a.holds(n) ? 1 : 0;
        }
        return found;
    }

    int alike(int one, int other, int what) {
        if (!slot(one) || !slot(other)) {
            return UNKNOWN;
        }
        if (!within(what, 0, 4)) {
            return OUTSIDE;
        }
        int apart = NONE;
        int both = NONE;
        boolean inside = true;
        for (int n = 4000; n >= 0; n--) {
            boolean p = slots[one].holds(n);
            boolean q = slots[other].holds(n);
            apart = p != q ? n : apart;
            both = p && q ? n : both;
            inside &= !p || q;
        }
        int[] all = {apart == NONE ? 1 : 0, inside ? 1 : 0, both == NONE ? 1 : 0, apart, both};
        return all[what];
    }

    int image(int k) {
        if (!within(k, 0, 1)) {
            return OUTSIDE;
        }
        kept[k] = slots.clone();
        keptBase[k] = base;
        return 1;
    }

    int restore(int k) {
        if (!within(k, 0, 1)) {
            return OUTSIDE;
        }
        if (kept[k] == null) {
            return AMISS;
        }
        slots = kept[k].clone();
        base = keptBase[k];
        return 1;
    }

    int count(int what) {
        Set<String> unlike = new HashSet<>();
        int some = 0;
        int states = 0;
        for (Known a : slots) {
            StringBuilder text = new StringBuilder();
            for (int n = 0; n < 4000; n++) {
                text.append(a.holds(n) ? '1' : '0');
            }
            unlike.add(text.toString());
            some += text.indexOf("1") >= 0 ? 1 : 0;
            states += a.goes.size();
        }
        int images = (kept[0] == null ? 0 : 1) + (kept[1] == null ? 0 : 2);
        int[] all = {some, unlike.size(), base, states, images};
        return within(what, 0, 4) ? all[what] : OUTSIDE;
    }
}
