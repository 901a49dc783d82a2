/** Promises 9 to 15: what is told of SETS and their machines. */
public final class ToldTest {
    private static final Due due = new Due();
    private static final int[] NO_SLOT = {-1, 6, 7, Integer.MIN_VALUE, Integer.MAX_VALUE};
    private static final int[] NO_LARGE_NUMBER = {-1, 1000000001, Integer.MIN_VALUE, Integer.MAX_VALUE};

    public static void main(String[] args) {
        promise9Told();
        promise9ToldRefused();
        promise10State();
        promise10StateOfOtherBases();
        promise10StateRefused();
        promise11Walk();
        promise12Has();
        promise13Next();
        promise14Below();
        promise15Alike();
        promise15AlikeRefused();
        due.end();
    }

    private static void tells(Renewed x, int slot, String of, int... want) {
        for (int what = 0; what < want.length; what++) {
            due.is(of + ": told(" + slot + ", " + what + ")", x.told(slot, what), want[what]);
        }
    }

    private static void promise9Told() {
        Renewed x = new Renewed();
        tells(x, 0, "none", 0, 1, 1, 0, 0, 0);
        x.put(0, 4, 0, 0);
        tells(x, 0, "all", 0, 1, 1, 1, 0, 1);
        x.put(0, 0, 0, 0);
        tells(x, 0, "0 alone", 1, 1, 2, 1, 1, 0);
        x.put(0, 1, 1, 0);
        tells(x, 0, "all but 0", 1, 1, 2, 1, 0, 1);
        x.put(0, 2, 0, 3);
        tells(x, 0, "0 by 3", 0, 3, 3, 1, 0, 1);
        x.put(0, 2, 0, 2);
        tells(x, 0, "even", 0, 2, 3, 2, 0, 1);
        x.put(0, 2, 0, 3);
        x.put(1, 0, 6, 0);
        x.join(0, 0, 1, 3);
        // 6 is taken out: from 7 on, all is as by 3, and 6 is not as 9 is
        due.is("START", x.told(0, 0), 7);
        due.is("PERIOD", x.told(0, 1), 3);
        due.is("before START: 0, 3", x.told(0, 4), 2);
        due.is("in a PERIOD: 9", x.told(0, 5), 1);
        x.put(0, 2, 0, 4);
        x.put(1, 2, 1, 4);
        x.join(2, 0, 1, 0);
        tells(x, 2, "0 or 1 by 4", 0, 4);
        due.is("in a PERIOD: two", x.told(2, 5), 2);
        x.put(1, 2, 2, 4);
        x.join(2, 0, 1, 0);
        due.is("0 or 2 by 4 is by 2", x.told(2, 1), 2);
        due.is("one in a PERIOD", x.told(2, 5), 1);
        x.put(3, 1, 100, 0);
        x.shift(3, 3, 20);
        due.is("START 120", x.told(3, 0), 120);
        x.turn(3, 3);
        due.is("before START: all", x.told(3, 4), 120);
        due.is("in a PERIOD: none", x.told(3, 5), 0);
    }

    private static void promise9ToldRefused() {
        Renewed x = new Renewed();
        for (int slot : NO_SLOT) {
            due.is("told(" + slot + ", 0)", x.told(slot, 0), NumberMachines.UNKNOWN);
            due.is("told(" + slot + ", 9)", x.told(slot, 9), NumberMachines.UNKNOWN);
        }
        for (int what : new int[] {-1, 6, Integer.MIN_VALUE, Integer.MAX_VALUE}) {
            due.is("told(5, " + what + ")", x.told(5, what), NumberMachines.OUTSIDE);
        }
    }

    private static void states(Renewed x, int slot, String of, int[][] want) {
        due.is(of + ": STATES", x.told(slot, 2), want.length);
        for (int i = 0; i < want.length; i++) {
            for (int what = 0; what < 8; what++) {
                due.is(of + ": state(" + slot + ", " + i + ", " + what + ")", x.state(slot, i, what), want[i][what]);
            }
        }
    }

    private static void promise10State() {
        Renewed x = new Renewed();
        int no = NumberMachines.AMISS;
        int none = NumberMachines.NONE;
        states(x, 0, "none", new int[][] {{0, 0, no, no, no, 0, 0, none}});
        x.put(0, 4, 0, 0);
        states(x, 0, "all", new int[][] {{0, 0, no, no, no, 1, 0, 0}});
        x.put(0, 0, 0, 0);
        states(x, 0, "0 alone", new int[][] {{0, 1, no, no, no, 1, 0, 0}, {1, 1, no, no, no, 0, 1, none}});
        x.put(0, 0, 5, 0);
        states(x, 0, "5 alone", new int[][] {
            {1, 2, no, no, no, 0, 0, 3},
            {1, 1, no, no, no, 0, 1, none},
            {3, 1, no, no, no, 0, 1, 2},
            {1, 4, no, no, no, 0, 2, 1},
            {4, 1, no, no, no, 1, 3, 0}});
        x.put(0, 2, 0, 3);
        states(x, 0, "0 by 3", new int[][] {
            {0, 1, no, no, no, 1, 0, 0},
            {2, 0, no, no, no, 0, 1, 1},
            {1, 2, no, no, no, 0, 2, 2}});
        x.put(0, 1, 3, 0);
        // no less than 3; RESTS: by 0, no less than 2; by 1, no less than 1; then all
        states(x, 0, "no less than 3", new int[][] {
            {1, 2, no, no, no, 0, 0, 2},
            {2, 2, no, no, no, 0, 1, 2},
            {2, 3, no, no, no, 0, 1, 1},
            {3, 3, no, no, no, 1, 2, 0}});
    }

    private static void promise10StateOfOtherBases() {
        Renewed x = new Renewed();
        int no = NumberMachines.AMISS;
        int none = NumberMachines.NONE;
        x.base(3);
        x.put(1, 0, 7, 0);
        // 7 is 21 by 3: FIGURE 1, then FIGURE 2
        states(x, 1, "7 alone by 3", new int[][] {
            {1, 2, 1, no, no, 0, 0, 2},
            {1, 1, 1, no, no, 0, 1, none},
            {1, 1, 3, no, no, 0, 1, 1},
            {3, 1, 1, no, no, 1, 2, 0}});
        x.base(5);
        x.put(2, 2, 1, 2);
        // odd: a FIGURE that is odd turns it about, as 5 does not change what is left by 2
        states(x, 2, "odd by 5", new int[][] {
            {0, 1, 0, 1, 0, 0, 0, 1},
            {1, 0, 1, 0, 1, 1, 1, 0}});
        x.put(3, 2, 4, 5);
        states(x, 3, "4 by 5", new int[][] {
            {1, 1, 1, 1, 2, 0, 0, 1},
            {1, 1, 1, 1, 1, 0, 1, none},
            {2, 2, 2, 2, 2, 1, 1, 0}});
    }

    private static void promise10StateRefused() {
        Renewed x = new Renewed();
        x.put(0, 2, 0, 3);
        for (int slot : NO_SLOT) {
            due.is("state(" + slot + ", 0, 9)", x.state(slot, 0, 9), NumberMachines.UNKNOWN);
        }
        for (int i : new int[] {-1, 3, 64, Integer.MIN_VALUE, Integer.MAX_VALUE}) {
            due.is("state(0, " + i + ", 9)", x.state(0, i, 9), NumberMachines.UNKNOWN);
            due.is("state(0, " + i + ", 4)", x.state(0, i, 4), NumberMachines.UNKNOWN);
            due.is("state(0, " + i + ", 5)", x.state(0, i, 5), NumberMachines.UNKNOWN);
        }
        for (int what : new int[] {-1, 8, Integer.MIN_VALUE, Integer.MAX_VALUE}) {
            due.is("state(0, 2, " + what + ")", x.state(0, 2, what), NumberMachines.OUTSIDE);
        }
        for (int base : new int[] {2, 3, 5}) {
            x.base(base);
            for (int figure = 0; figure < 5; figure++) {
                due.is("figure " + figure + " by " + base, x.state(0, 0, figure), figure < base ? 0 : NumberMachines.AMISS);
            }
        }
    }

    private static void promise11Walk() {
        Renewed x = new Renewed();
        x.put(0, 0, 5, 0);
        int[] by5 = {0, 2, 3, 4, 4};
        for (int n = 0; n < by5.length; n++) {
            due.is("walk(0, 5, " + n + ")", x.walk(0, 5, n), by5[n]);
        }
        due.is("walk(0, 5, 40)", x.walk(0, 5, 40), 4);
        due.is("walk(0, 13, 3)", x.walk(0, 13, 3), 4);
        due.is("walk(0, 13, 4)", x.walk(0, 13, 4), 1);
        due.is("walk(0, 6, 1)", x.walk(0, 6, 1), 1);
        x.put(1, 2, 0, 3);
        due.is("walk of the largest", x.walk(1, Integer.MAX_VALUE, 31), 1);
        due.is("walk of the largest, 0", x.walk(1, Integer.MAX_VALUE, 0), 0);
        due.is("walk of the largest, 32", x.walk(1, Integer.MAX_VALUE, 32), 2);
        due.is("walk of the largest, 40", x.walk(1, Integer.MAX_VALUE, 40), 2);
        walkGoesByFigures();
        for (int slot : NO_SLOT) {
            due.is("walk(" + slot + ", -1, -1)", x.walk(slot, -1, -1), NumberMachines.UNKNOWN);
        }
        for (int n : new int[] {-1, 41, Integer.MIN_VALUE, Integer.MAX_VALUE}) {
            due.is("walk(0, 0, " + n + ")", x.walk(0, 0, n), NumberMachines.OUTSIDE);
        }
        due.is("walk(0, -1, 3)", x.walk(0, -1, 3), NumberMachines.OUTSIDE);
        due.is("walk(0, -1, 0)", x.walk(0, -1, 0), NumberMachines.OUTSIDE);
        due.is("walk(0, MIN, 3)", x.walk(0, Integer.MIN_VALUE, 3), NumberMachines.OUTSIDE);
    }

    /** A machine that has read all FIGURES stands where it is GOOD, if the NUMBER is in the SET, and only then. */
    private static void walkGoesByFigures() {
        for (int base : new int[] {2, 3, 5}) {
            Renewed x = new Renewed();
            x.base(base);
            x.put(0, 2, 4, 12);
            x.put(1, 0, 77, 0);
            x.join(0, 0, 1, 0);
            for (int number = 0; number < 3000; number++) {
                int at = 0;
                int left = number;
                for (int n = 0; n <= 12; n++) {
                    due.is("walk(0, " + number + ", " + n + ")", x.walk(0, number, n), at);
                    at = x.state(0, at, left % base);
                    left /= base;
                }
                due.is("GOOD at the end of " + number, x.state(0, at, 5), number == 77 || number % 12 == 4 ? 1 : 0);
            }
        }
    }

    private static void promise12Has() {
        Renewed x = new Renewed();
        x.put(0, 2, 10, 60);
        x.put(1, 0, 0, 0);
        x.join(0, 0, 1, 0);
        due.holds(x, 0, "has", n -> n == 0 || n % 60 == 10);
        due.is("has(0, 1000000000)", x.has(0, 1000000000), 0);
        due.is("has(0, 999999970)", x.has(0, 999999970), 1);
        for (int slot : NO_SLOT) {
            due.is("has(" + slot + ", -1)", x.has(slot, -1), NumberMachines.UNKNOWN);
        }
        for (int number : NO_LARGE_NUMBER) {
            due.is("has(0, " + number + ")", x.has(0, number), NumberMachines.OUTSIDE);
        }
    }

    private static void promise13Next() {
        Renewed x = new Renewed();
        due.is("next of none", x.next(0, 0), NumberMachines.NONE);
        due.is("next of none", x.next(0, 1000000000), NumberMachines.NONE);
        x.put(0, 2, 59, 60);
        due.is("next(0, 0)", x.next(0, 0), 59);
        due.is("next(0, 59)", x.next(0, 59), 59);
        due.is("next(0, 60)", x.next(0, 60), 119);
        due.is("next(0, 1000000000)", x.next(0, 1000000000), 1000000019);
        x.put(1, 0, 100, 0);
        x.shift(1, 1, 19);
        due.is("119 alone", x.next(1, 0), 119);
        due.is("119 alone, from 119 on", x.next(1, 119), 119);
        due.is("119 alone, from 120 on", x.next(1, 120), NumberMachines.NONE);
        due.is("119 alone, from the largest on", x.next(1, 1000000000), NumberMachines.NONE);
        x.shift(0, 0, 2);
        due.is("61 by 60, from 0 on", x.next(0, 0), 61);
        due.is("1 by 60 but 1, from 62 on", x.next(0, 62), 121);
        for (int slot : NO_SLOT) {
            due.is("next(" + slot + ", -1)", x.next(slot, -1), NumberMachines.UNKNOWN);
        }
        for (int number : NO_LARGE_NUMBER) {
            due.is("next(0, " + number + ")", x.next(0, number), NumberMachines.OUTSIDE);
        }
    }

    private static void promise14Below() {
        Renewed x = new Renewed();
        due.is("below of none", x.below(0, 1000000000), 0);
        x.put(0, 2, 3, 7);
        x.put(1, 0, 20, 0);
        x.join(0, 0, 1, 0);
        int found = 0;
        for (int number = 0; number < 1000; number++) {
            due.is("below(0, " + number + ")", x.below(0, number), found);
            if (number == 20 || number % 7 == 3) {
                found++;
            }
        }
        // 3 by 7: up to 999999997 are 142857142 whole PERIODS and 3 more; 999999997 itself leaves 3
        due.is("below(0, 999999997)", x.below(0, 999999997), 142857143);
        due.is("below(0, 999999998)", x.below(0, 999999998), 142857144);
        due.is("below(0, 1000000000)", x.below(0, 1000000000), 142857144);
        x.put(2, 4, 0, 0);
        due.is("below of all", x.below(2, 1000000000), 1000000000);
        x.put(2, 1, 100, 0);
        due.is("below of no less than 100", x.below(2, 1000000000), 999999900);
        due.is("below of no less than 100", x.below(2, 100), 0);
        due.is("below of no less than 100", x.below(2, 101), 1);
        for (int slot : NO_SLOT) {
            due.is("below(" + slot + ", -1)", x.below(slot, -1), NumberMachines.UNKNOWN);
        }
        for (int number : NO_LARGE_NUMBER) {
            due.is("below(0, " + number + ")", x.below(0, number), NumberMachines.OUTSIDE);
        }
    }

    private static void alike(Renewed x, int one, int other, int... want) {
        for (int what = 0; what < want.length; what++) {
            due.is("alike(" + one + ", " + other + ", " + what + ")", x.alike(one, other, what), want[what]);
        }
    }

    private static void promise15Alike() {
        int none = NumberMachines.NONE;
        Renewed x = new Renewed();
        alike(x, 0, 1, 1, 1, 1, none, none);
        alike(x, 2, 2, 1, 1, 1, none, none);
        x.put(0, 2, 0, 6);
        x.put(1, 2, 0, 3);
        alike(x, 0, 1, 0, 1, 0, 3, 0);
        alike(x, 1, 0, 0, 0, 0, 3, 0);
        alike(x, 0, 0, 1, 1, 0, none, 0);
        alike(x, 0, 2, 0, 0, 1, 0, none);
        alike(x, 2, 0, 0, 1, 1, 0, none);
        x.put(2, 2, 1, 2);
        alike(x, 0, 2, 0, 0, 1, 0, none);
        alike(x, 1, 2, 0, 0, 0, 0, 3);
        // they meet late: 58 by 59 and 59 by 60 are both one less than a multiple
        x.put(3, 2, 58, 59);
        x.put(4, 2, 59, 60);
        alike(x, 3, 4, 0, 0, 0, 58, 3539);
        x.put(3, 1, 100, 0);
        x.shift(3, 3, 20);
        x.put(5, 1, 100, 0);
        alike(x, 3, 5, 0, 1, 0, 100, 120);
        alike(x, 5, 3, 0, 0, 0, 100, 120);
        // they part late: by 60 and by 59, from 120 on
        x.put(4, 2, 59, 60);
        x.join(4, 4, 3, 1);
        x.put(0, 2, 58, 59);
        alike(x, 4, 0, 0, 0, 0, 58, 3539);
        x.put(0, 0, 100, 0);
        x.put(1, 0, 99, 0);
        alike(x, 0, 1, 0, 0, 1, 99, none);
    }

    private static void promise15AlikeRefused() {
        Renewed x = new Renewed();
        for (int slot : NO_SLOT) {
            due.is("alike(" + slot + ", 0, 9)", x.alike(slot, 0, 9), NumberMachines.UNKNOWN);
            due.is("alike(0, " + slot + ", 9)", x.alike(0, slot, 9), NumberMachines.UNKNOWN);
        }
        for (int what : new int[] {-1, 5, Integer.MIN_VALUE, Integer.MAX_VALUE}) {
            due.is("alike(0, 1, " + what + ")", x.alike(0, 1, what), NumberMachines.OUTSIDE);
        }
    }
}
