/** Promises 16 to 18: images, and what is counted of all SLOTS. */
public final class ImagesTest {
    private static final Due due = new Due();
    private static final int[] NO_IMAGE = {-1, 2, Integer.MIN_VALUE, Integer.MAX_VALUE};

    public static void main(String[] args) {
        promise16Image();
        promise17Restore();
        promise18Count();
        due.end();
    }

    private static void promise16Image() {
        Renewed x = new Renewed();
        for (int k : NO_IMAGE) {
            due.is("image(" + k + ")", x.image(k), NumberMachines.OUTSIDE);
        }
        due.is("none is kept", x.count(4), 0);
        due.is("image(1)", x.image(1), 1);
        due.is("the second is kept", x.count(4), 2);
        x.put(0, 0, 8, 0);
        due.is("image(0)", x.image(0), 1);
        due.is("both are kept", x.count(4), 3);
        due.is("image changes no SLOT", x.next(0, 0), 8);
        x.put(0, 0, 9, 0);
        due.is("image(0) again", x.image(0), 1);
        x.put(0, 0, 10, 0);
        x.restore(0);
        due.is("the later one is in place of the earlier", x.next(0, 0), 9);
        x.restore(1);
        due.is("the other one is as it was", x.count(0), 0);
    }

    private static void promise17Restore() {
        Renewed x = new Renewed();
        for (int k : NO_IMAGE) {
            due.is("restore(" + k + ")", x.restore(k), NumberMachines.OUTSIDE);
        }
        due.is("restore(0)", x.restore(0), NumberMachines.AMISS);
        x.base(3);
        for (int slot = 0; slot < 6; slot++) {
            x.put(slot, 0, 7 + slot, 0);
        }
        int states = x.count(3);
        x.image(0);
        due.is("restore(1), while 0 is kept", x.restore(1), NumberMachines.AMISS);
        x.base(5);
        due.is("the IMAGE stays, when BASE is told", x.count(4), 1);
        x.put(3, 4, 0, 0);
        x.image(1);
        for (int again = 0; again < 2; again++) {
            due.is("restore(0)", x.restore(0), 1);
            due.is("BASE", x.count(2), 3);
            due.is("STATES", x.count(3), states);
            for (int slot = 0; slot < 6; slot++) {
                int a = 7 + slot;
                due.holds(x, slot, "restored", n -> n == a);
            }
            due.is("7 by 3 goes by FIGURE 1", x.state(0, 0, 1), 2);
            due.is("there is no FIGURE 3", x.state(0, 0, 3), NumberMachines.AMISS);
            x.turn(0, 0);
            x.put(1, 3, 0, 0);
            due.is("restore(1)", x.restore(1), 1);
            due.is("BASE", x.count(2), 5);
            due.is("all", x.count(0), 1);
            due.is("all", x.told(3, 3), 1);
            due.is("both are kept", x.count(4), 3);
        }
    }

    private static void counts(Renewed x, String when, int... want) {
        for (int what = 0; what < want.length; what++) {
            due.is(when + ": count(" + what + ")", x.count(what), want[what]);
        }
    }

    private static void promise18Count() {
        Renewed x = new Renewed();
        counts(x, "new", 0, 1, 2, 6, 0);
        x.put(0, 0, 5, 0);
        counts(x, "5 alone", 1, 2, 2, 10, 0);
        x.put(1, 0, 5, 0);
        counts(x, "5 alone, twice", 2, 2, 2, 14, 0);
        x.put(2, 2, 0, 3);
        x.image(1);
        counts(x, "and 0 by 3", 3, 3, 2, 16, 2);
        x.put(3, 4, 0, 0);
        x.put(4, 1, 0, 0);
        x.put(5, 2, 0, 1);
        counts(x, "all three full", 6, 3, 2, 16, 2);
        x.base(5);
        counts(x, "another BASE", 0, 1, 5, 6, 2);
        for (int slot = 0; slot < 6; slot++) {
            x.put(slot, 0, slot, 0);
        }
        // 0 to 4 alone: 2 STATES for 0, 3 for the others; 5 is 10 by 5 and has 4
        counts(x, "all unlike", 6, 6, 5, 18, 2);
        // alike in all but one NUMBER before START, or in all but START
        x.put(0, 1, 1, 0);
        x.put(1, 4, 0, 0);
        x.put(2, 2, 0, 2);
        x.put(3, 2, 1, 2);
        x.shift(4, 2, 2);
        x.turn(5, 3);
        due.is("unlike: 1 on, all, even, odd, even but 0", x.count(1), 5);
        for (int what : new int[] {-1, 5, Integer.MIN_VALUE, Integer.MAX_VALUE}) {
            due.is("count(" + what + ")", x.count(what), NumberMachines.OUTSIDE);
        }
    }
}
