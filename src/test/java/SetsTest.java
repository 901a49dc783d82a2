/** Promises 1 to 8: a new object, and the calls that change what a SLOT holds. */
public final class SetsTest {
    private static final Due due = new Due();
    private static final int[] BASES = {2, 3, 5};
    private static final int[] NO_SLOT = {-1, 6, 7, Integer.MIN_VALUE, Integer.MAX_VALUE};

    public static void main(String[] args) {
        promise1NewObject();
        promise2Base();
        promise3Put();
        promise3PutRefused();
        promise4Join();
        promise4JoinRefused();
        promise5Turn();
        promise6Shift();
        promise6ShiftRefused();
        promise7Stretch();
        promise7StretchRefused();
        promise8Shrink();
        promise8ShrinkRefused();
        largeByStates();
        refusedChangesNothing();
        due.end();
    }

    private static void promise1NewObject() {
        Renewed x = new Renewed();
        for (int slot = 0; slot < 6; slot++) {
            due.is("new: told(" + slot + ", 0)", x.told(slot, 0), 0);
            due.is("new: told(" + slot + ", 1)", x.told(slot, 1), 1);
            due.is("new: told(" + slot + ", 2)", x.told(slot, 2), 1);
            due.is("new: told(" + slot + ", 3)", x.told(slot, 3), 0);
            due.is("new: next(" + slot + ", 0)", x.next(slot, 0), NumberMachines.NONE);
            due.holds(x, slot, "new", n -> false);
        }
        due.is("new: count(0)", x.count(0), 0);
        due.is("new: count(1)", x.count(1), 1);
        due.is("new: count(2)", x.count(2), 2);
        due.is("new: count(3)", x.count(3), 6);
        due.is("new: count(4)", x.count(4), 0);
        due.is("new: restore(0)", x.restore(0), NumberMachines.AMISS);
        due.is("new: restore(1)", x.restore(1), NumberMachines.AMISS);
    }

    private static void promise2Base() {
        Renewed x = new Renewed();
        due.is("base(3)", x.base(3), 2);
        due.is("count(2)", x.count(2), 3);
        due.is("base(5)", x.base(5), 3);
        due.is("base(2)", x.base(2), 5);
        x.put(0, 4, 0, 0);
        x.put(5, 0, 7, 0);
        for (int n : new int[] {4, 1, 0, -2, 6, 10, Integer.MIN_VALUE, Integer.MAX_VALUE}) {
            due.is("base(" + n + ")", x.base(n), NumberMachines.OUTSIDE);
        }
        due.is("refused base leaves BASE", x.count(2), 2);
        due.is("refused base leaves SLOTS", x.count(0), 2);
        due.is("the same base", x.base(2), 2);
        due.is("the same base empties the SLOTS", x.count(0), 0);
        due.is("the same base empties the SLOTS", x.count(3), 6);
        // 4 is 100 by 2, 11 by 3 and 4 by 5: a STATE for each FIGURE, the SET itself and that of no NUMBER
        due.is("put(0, 0, 4, 0) by 2", x.put(0, 0, 4, 0), 5);
        x.base(3);
        due.is("put(0, 0, 4, 0) by 3", x.put(0, 0, 4, 0), 4);
        x.base(5);
        due.is("put(0, 0, 4, 0) by 5", x.put(0, 0, 4, 0), 3);
    }

    private static void promise3Put() {
        for (int base : BASES) {
            Renewed x = new Renewed();
            x.base(base);
            for (int a : new int[] {0, 1, 2, 31, 32, 63, 64, 99, 100}) {
                int kept = a;
                x.put(0, 0, a, -7);
                due.holds(x, 0, "put kind 0 of " + a, n -> n == kept);
                due.is("START of " + a + " alone", x.told(0, 0), a + 1);
                due.is("PERIOD of " + a + " alone", x.told(0, 1), 1);
                x.put(1, 1, a, 99);
                due.holds(x, 1, "put kind 1 of " + a, n -> n >= kept);
                due.is("START of no less than " + a, x.told(1, 0), a);
                due.is("PERIOD of no less than " + a, x.told(1, 1), 1);
                for (int m : new int[] {1, 2, 7, 24, 59, 60}) {
                    x.put(2, 2, a, m);
                    due.holds(x, 2, "put kind 2 of " + a + " by " + m, n -> n % m == kept % m);
                    due.is("START by " + m, x.told(2, 0), 0);
                    due.is("PERIOD by " + m, x.told(2, 1), m);
                }
            }
            due.is("put(2, 3)", x.put(2, 3, -1, -1), 1);
            due.holds(x, 2, "put kind 3", n -> false);
            due.is("put(3, 4)", x.put(3, 4, 101, 61), 1);
            due.holds(x, 3, "put kind 4", n -> true);
        }
        everyPutTellsItsStates();
    }

    /** By a number that shares nothing with BASE there are as many STATES as remainders. */
    private static void everyPutTellsItsStates() {
        for (int base : BASES) {
            for (int m = 1; m <= 60; m++) {
                Renewed x = new Renewed();
                x.base(base);
                for (int a = 0; a <= 100; a += 9) {
                    int states = x.put(4, 2, a, m);
                    due.is("put tells what told tells", states, x.told(4, 2));
                    if (m % base != 0) {
                        due.is("STATES of " + a + " by " + m + " in BASE " + base, states, m);
                    }
                }
            }
        }
    }

    private static void promise3PutRefused() {
        Renewed x = new Renewed();
        for (int slot : NO_SLOT) {
            due.is("put(" + slot + ", 9, -1, -1)", x.put(slot, 9, -1, -1), NumberMachines.UNKNOWN);
            due.is("put(" + slot + ", 4, 0, 0)", x.put(slot, 4, 0, 0), NumberMachines.UNKNOWN);
        }
        for (int kind : new int[] {-1, 5, Integer.MIN_VALUE, Integer.MAX_VALUE}) {
            due.is("put(0, " + kind + ", 0, 1)", x.put(0, kind, 0, 1), NumberMachines.OUTSIDE);
        }
        for (int a : new int[] {-1, 101, Integer.MIN_VALUE, Integer.MAX_VALUE}) {
            for (int kind = 0; kind <= 2; kind++) {
                due.is("put(0, " + kind + ", " + a + ", 1)", x.put(0, kind, a, 1), NumberMachines.OUTSIDE);
            }
            due.is("put(0, 4, " + a + ", 1)", x.put(0, 4, a, 1), 1);
            due.is("put(0, 3, " + a + ", 1)", x.put(0, 3, a, 1), 1);
        }
        for (int m : new int[] {0, -1, 61, Integer.MIN_VALUE, Integer.MAX_VALUE}) {
            due.is("put(0, 2, 0, " + m + ")", x.put(0, 2, 0, m), NumberMachines.OUTSIDE);
            due.is("put(0, 0, 0, " + m + ")", x.put(0, 0, 0, m), 2);
            due.is("put(0, 1, 0, " + m + ")", x.put(0, 1, 0, m), 1);
            due.is("put(0, 3, 0, " + m + ")", x.put(0, 3, 0, m), 1);
        }
        due.is("nothing is held", x.count(0), 0);
    }

    private static void promise4Join() {
        for (int base : BASES) {
            Renewed x = new Renewed();
            x.base(base);
            x.put(0, 2, 1, 4);
            x.put(1, 1, 37, 0);
            x.put(2, 2, 2, 6);
            x.join(3, 0, 1, 0);
            due.holds(x, 3, "join any", n -> n % 4 == 1 || n >= 37);
            x.join(3, 0, 1, 1);
            due.holds(x, 3, "join both", n -> n % 4 == 1 && n >= 37);
            x.join(3, 0, 1, 2);
            due.holds(x, 3, "join first only", n -> n % 4 == 1 && n < 37);
            x.join(3, 1, 0, 2);
            due.holds(x, 3, "join first only, the other way", n -> n >= 37 && n % 4 != 1);
            x.join(3, 0, 1, 3);
            due.holds(x, 3, "join just one", n -> (n % 4 == 1) != (n >= 37));
            x.join(3, 0, 2, 0);
            due.holds(x, 3, "join of two PERIODS", n -> n % 4 == 1 || n % 6 == 2);
            due.is("PERIOD of the join", x.told(3, 1), 12);
            x.join(0, 0, 0, 3);
            due.holds(x, 0, "join with itself, in place", n -> false);
            x.join(2, 2, 1, 3);
            due.holds(x, 2, "join in place", n -> (n % 6 == 2) != (n >= 37));
        }
        joinAtTheLimits();
    }

    private static void joinAtTheLimits() {
        Renewed x = new Renewed();
        x.put(0, 2, 0, 60);
        x.put(1, 2, 0, 59);
        for (int way = 0; way <= 3; way++) {
            due.is("join of 60 and 59, way " + way, x.join(2, 0, 1, way), NumberMachines.FULL);
        }
        due.is("the SLOT is as it was", x.told(2, 2), 1);
        x.put(2, 4, 0, 0);
        due.is("60 or all", x.join(3, 0, 2, 0), 1);
        // a PERIOD that is much less than those of both
        x.put(0, 2, 0, 40);
        x.put(1, 2, 20, 40);
        due.is("join by 40 twice is by 20", x.join(3, 0, 1, 0), x.put(4, 2, 0, 20));
        due.is("join by 40 twice is by 20", x.told(3, 1), 20);
        due.is("alike", x.alike(3, 4, 0), 1);
        // 13 by 60 is taken out of 1 by 12 and put in again: the longer PERIOD is gone
        x.put(0, 2, 1, 12);
        x.put(1, 2, 13, 60);
        x.join(2, 0, 1, 2);
        x.join(3, 2, 1, 0);
        due.is("taken out and put in again", x.alike(3, 0, 0), 1);
        due.is("its PERIOD", x.told(3, 1), 12);
        joinThatComesRoundSooner();
    }

    /** What is made comes round sooner, or from earlier on, than what it is made of: it is not LARGE. */
    private static void joinThatComesRoundSooner() {
        Renewed x = new Renewed();
        int even = x.put(0, 2, 0, 60);
        x.put(1, 2, 1, 58);
        due.is("even ones less odd ones", x.join(2, 0, 1, 2), even);
        due.is("PERIOD 60", x.told(2, 1), 60);
        due.is("alike", x.alike(2, 0, 0), 1);
        due.is("even ones that are odd", x.join(2, 0, 1, 1), 1);
        int fromHundred = x.put(0, 1, 100, 0);
        x.shift(1, 0, 1);
        x.put(2, 0, 100, 0);
        due.is("100, and no less than 101", x.join(3, 1, 2, 0), fromHundred);
        due.is("START 100", x.told(3, 0), 100);
        due.is("alike", x.alike(3, 0, 0), 1);
        due.is("unlike SETS: from 100, from 101, 100, none", x.count(1), 4);
    }

    private static void promise4JoinRefused() {
        Renewed x = new Renewed();
        for (int slot : NO_SLOT) {
            due.is("join to " + slot, x.join(slot, 0, 0, 9), NumberMachines.UNKNOWN);
            due.is("join of " + slot, x.join(0, slot, 0, 9), NumberMachines.UNKNOWN);
            due.is("join with " + slot, x.join(0, 0, slot, 9), NumberMachines.UNKNOWN);
            due.is("join with " + slot, x.join(0, 0, slot, 0), NumberMachines.UNKNOWN);
        }
        for (int way : new int[] {-1, 4, Integer.MIN_VALUE, Integer.MAX_VALUE}) {
            due.is("join way " + way, x.join(0, 1, 2, way), NumberMachines.OUTSIDE);
        }
    }

    private static void promise5Turn() {
        for (int base : BASES) {
            Renewed x = new Renewed();
            x.base(base);
            x.put(0, 0, 17, 0);
            int states = x.told(0, 2);
            due.is("turn(1, 0)", x.turn(1, 0), states);
            due.holds(x, 1, "turn", n -> n != 17);
            due.holds(x, 0, "turn leaves the other", n -> n == 17);
            due.is("turn(1, 1)", x.turn(1, 1), states);
            due.is("turned twice", x.alike(0, 1, 0), 1);
            due.is("turn of none", x.turn(2, 3), 1);
            due.holds(x, 2, "turn of none", n -> true);
            x.put(4, 2, 3, 10);
            x.turn(4, 4);
            due.holds(x, 4, "turn by 10", n -> n % 10 != 3);
        }
        Renewed x = new Renewed();
        for (int slot : NO_SLOT) {
            due.is("turn(" + slot + ", 0)", x.turn(slot, 0), NumberMachines.UNKNOWN);
            due.is("turn(0, " + slot + ")", x.turn(0, slot), NumberMachines.UNKNOWN);
        }
        due.is("nothing is held", x.count(0), 0);
    }

    private static void promise6Shift() {
        for (int base : BASES) {
            Renewed x = new Renewed();
            x.base(base);
            x.put(0, 2, 5, 9);
            x.put(1, 0, 15, 0);
            x.join(0, 0, 1, 0);
            for (int c : new int[] {-100, -23, -16, -15, -6, -5, -1, 0, 1, 2, 17, 59, 99, 100}) {
                x.shift(2, 0, c);
                due.holds(x, 2, "shift by " + c, n -> n - c >= 0 && (n - c == 15 || (n - c) % 9 == 5));
            }
            x.shift(0, 0, -14);
            due.holds(x, 0, "shift in place", n -> n == 1 || n % 9 == 0);
            x.put(3, 0, 100, 0);
            x.shift(3, 3, 19);
            due.is("START of 119 alone", x.told(3, 0), 120);
            due.is("120 alone", x.shift(3, 3, 1), NumberMachines.FULL);
            due.is("119 alone stays", x.next(3, 0), 119);
            due.is("shift below all", x.shift(3, 3, -100), x.put(4, 0, 19, 0));
            due.is("19 alone", x.next(3, 0), 19);
            due.is("shift of a SET to below 0", x.shift(3, 3, -20), 1);
            due.is("none is left", x.next(3, 0), NumberMachines.NONE);
            x.put(3, 1, 100, 0);
            x.shift(3, 3, 20);
            due.holds(x, 3, "no less than 120", n -> n >= 120);
            due.is("no less than 121", x.shift(3, 3, 1), NumberMachines.FULL);
            due.is("no less than 220", x.shift(3, 3, 100), NumberMachines.FULL);
            // the START of a shifted SET: 0 by 2, moved by 7, is none below 7 and comes round from 6 on
            x.put(5, 2, 0, 2);
            x.shift(5, 5, 7);
            due.is("START of odd ones from 7 on", x.told(5, 0), 6);
        }
    }

    private static void promise6ShiftRefused() {
        Renewed x = new Renewed();
        for (int slot : NO_SLOT) {
            due.is("shift(" + slot + ", 0, 101)", x.shift(slot, 0, 101), NumberMachines.UNKNOWN);
            due.is("shift(0, " + slot + ", 101)", x.shift(0, slot, 101), NumberMachines.UNKNOWN);
        }
        for (int c : new int[] {-101, 101, Integer.MIN_VALUE, Integer.MAX_VALUE}) {
            due.is("shift(0, 0, " + c + ")", x.shift(0, 0, c), NumberMachines.OUTSIDE);
        }
    }

    private static void promise7Stretch() {
        for (int base : BASES) {
            Renewed x = new Renewed();
            x.base(base);
            x.put(0, 2, 1, 3);
            x.put(1, 0, 2, 0);
            x.join(0, 0, 1, 0);
            for (int c = 1; c <= 12; c++) {
                for (int d : new int[] {0, 1, 11, 20}) {
                    int times = c;
                    if (x.stretch(2, 0, c, d) != NumberMachines.FULL) {
                        due.holds(x, 2, "stretch by " + c + ", " + d, n -> n >= d && (n - d) % times == 0
                                && ((n - d) / times == 2 || (n - d) / times % 3 == 1));
                    }
                }
            }
            due.is("stretch by 1", x.stretch(2, 0, 1, 0), x.told(0, 2));
            due.is("stretch by 1", x.alike(2, 0, 0), 1);
            x.put(3, 4, 0, 0);
            x.stretch(3, 3, 12, 0);
            due.holds(x, 3, "stretch of all", n -> n % 12 == 0);
            due.is("PERIOD 60", x.stretch(4, 3, 5, 0) > 0 ? x.told(4, 1) : 0, 60);
            due.is("PERIOD 72", x.stretch(4, 3, 6, 0), NumberMachines.FULL);
            due.is("PERIOD 60 stays", x.told(4, 1), 60);
            x.put(5, 0, 11, 0);
            due.is("119 alone", x.stretch(5, 5, 9, 20) > 0 ? x.told(5, 0) : 0, 120);
            x.put(5, 0, 10, 0);
            due.is("120 alone", x.stretch(5, 5, 12, 0), NumberMachines.FULL);
            due.is("10 stays", x.next(5, 0), 10);
            due.is("stretch of none", x.stretch(1, 2, 12, 20) != 0 ? x.put(2, 3, 0, 0) : 0, 1);
            due.is("stretch of none", x.stretch(1, 2, 12, 20), 1);
        }
    }

    private static void promise7StretchRefused() {
        Renewed x = new Renewed();
        for (int slot : NO_SLOT) {
            due.is("stretch(" + slot + ", 0, 0, 0)", x.stretch(slot, 0, 0, 0), NumberMachines.UNKNOWN);
            due.is("stretch(0, " + slot + ", 0, 0)", x.stretch(0, slot, 0, 0), NumberMachines.UNKNOWN);
        }
        for (int c : new int[] {0, -1, 13, Integer.MIN_VALUE, Integer.MAX_VALUE}) {
            due.is("stretch(0, 0, " + c + ", 0)", x.stretch(0, 0, c, 0), NumberMachines.OUTSIDE);
        }
        for (int d : new int[] {-1, 21, Integer.MIN_VALUE, Integer.MAX_VALUE}) {
            due.is("stretch(0, 0, 1, " + d + ")", x.stretch(0, 0, 1, d), NumberMachines.OUTSIDE);
        }
    }

    private static void promise8Shrink() {
        for (int base : BASES) {
            Renewed x = new Renewed();
            x.base(base);
            x.put(0, 2, 4, 14);
            x.put(1, 0, 33, 0);
            x.join(0, 0, 1, 0);
            for (int c = 1; c <= 12; c++) {
                for (int d : new int[] {0, 1, 13, 20}) {
                    int times = c;
                    due.is("shrink by " + c + ", " + d, x.shrink(2, 0, c, d) > 0 ? 1 : 0, 1);
                    due.holds(x, 2, "shrink by " + c + ", " + d, n -> times * n + d == 33 || (times * n + d) % 14 == 4);
                }
            }
            x.shrink(0, 0, 2, 1);
            due.holds(x, 0, "shrink in place", n -> n == 16);
            x.stretch(3, 0, 6, 17);
            x.shrink(4, 3, 6, 17);
            due.is("stretched and shrunk", x.alike(0, 4, 0), 1);
            x.put(5, 2, 1, 60);
            x.shrink(5, 5, 12, 1);
            due.holds(x, 5, "shrink by 12", n -> n % 5 == 0);
            due.is("PERIOD", x.told(5, 1), 5);
        }
    }

    private static void promise8ShrinkRefused() {
        Renewed x = new Renewed();
        for (int slot : NO_SLOT) {
            due.is("shrink(" + slot + ", 0, 0, 0)", x.shrink(slot, 0, 0, 0), NumberMachines.UNKNOWN);
            due.is("shrink(0, " + slot + ", 0, 0)", x.shrink(0, slot, 0, 0), NumberMachines.UNKNOWN);
        }
        for (int c : new int[] {0, -1, 13, Integer.MIN_VALUE, Integer.MAX_VALUE}) {
            due.is("shrink(0, 0, " + c + ", 0)", x.shrink(0, 0, c, 0), NumberMachines.OUTSIDE);
        }
        for (int d : new int[] {-1, 21, Integer.MIN_VALUE, Integer.MAX_VALUE}) {
            due.is("shrink(0, 0, 1, " + d + ")", x.shrink(0, 0, 1, d), NumberMachines.OUTSIDE);
        }
    }

    /** 0 by 59 has 59 STATES in BASE 2; joined with NUMBERS alone it has more, up to 64 and not beyond. */
    private static void largeByStates() {
        Renewed x = new Renewed();
        x.put(0, 2, 0, 59);
        int states = 59;
        boolean full = false;
        for (int a = 1; a < 40 && !full; a++) {
            x.put(1, 0, a, 0);
            int answer = x.join(0, 0, 1, 3);
            full = answer == NumberMachines.FULL;
            if (full) {
                due.is("no change by FULL", x.told(0, 2), states);
                due.is("no change by FULL", x.has(0, a), 0);
            } else {
                due.is("not beyond 64", answer >= 59 && answer <= 64 ? 1 : 0, 1);
                states = answer;
            }
        }
        due.is("FULL comes by STATES alone", full ? 1 : 0, 1);
        // 64 STATES are held, 65 are not: 0 by 59, moved by so much that few of its STATES come before the round
        int most = 0;
        for (int c = 0; c <= 100; c++) {
            x.put(0, 2, 0, 59);
            most = Math.max(most, x.shift(0, 0, c));
        }
        due.is("some SET has 64 STATES", most, 64);
    }

    private static void refusedChangesNothing() {
        Renewed x = new Renewed();
        x.put(0, 2, 0, 59);
        x.put(1, 2, 0, 60);
        x.put(2, 1, 100, 0);
        int sum = x.count(3);
        x.join(3, 0, 1, 0);
        x.shift(2, 2, 100);
        x.stretch(0, 0, 2, 0);
        x.put(7, 4, 0, 0);
        x.base(7);
        due.is("STATES are as they were", x.count(3), sum);
        due.holds(x, 0, "as it was", n -> n % 59 == 0);
        due.holds(x, 1, "as it was", n -> n % 60 == 0);
        due.holds(x, 2, "as it was", n -> n >= 100);
    }
}
