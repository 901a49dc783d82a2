/** The edges that promises 16 to 18 name: a test for each sentence. */
public final class EdgesOfImagesTest {
    private static final int OUTSIDE = NumberMachines.OUTSIDE, AMISS = NumberMachines.AMISS;
    private static final int LEAST = Integer.MIN_VALUE, MOST = Integer.MAX_VALUE;
    private static final int[] NO_IMAGE = {-1, 2, LEAST, MOST};

    private static final Due due = new Due();
    private static final Edges edges = new Edges(due);

    public static void main(String[] args) {
        promise16NumberK();
        promise16SlotsAndBaseAreKept();
        promise16OfAnObjectAsNew();
        promise16InPlaceOfWhatWasKept();
        promise16LaterCallsDoNotReachIt();
        promise17NumberK();
        promise17NothingWasKept();
        promise17OutsideAheadOfAmiss();
        promise17AsTheyWere();
        promise17TheImageStays();
        promise17WhatIsJustNotLarge();
        promise18What();
        promise18SlotsThatHoldAny();
        promise18UnlikeSets();
        promise18Base();
        promise18StatesOfAll();
        promise18ImagesKept();
        due.end();
    }

    private static Run run(String sentence) {
        return new Run(due, sentence);
    }

    private static Run fill(Run run, int kind, int a) {
        for (int slot = 0; slot <= 5; slot++) {
            run.then("put", slot, kind, a + slot, 7);
        }
        return run;
    }

    private static Run counts(Run run, int... want) {
        for (int what = 0; what < want.length; what++) {
            run.is(want[what], "count", what);
        }
        return run;
    }

    // ---- promise 16

    private static void promise16NumberK() {
        edges.range("promise 16: an IMAGE (0, 1); OUTSIDE", new Call("image", 0), 0, 0, 1, OUTSIDE);
        run("promise 16: 1").is(1, "image", 0).is(1, "image", 1).is(1, "image", 1).is(1, "image", 0);
    }

    private static void promise16SlotsAndBaseAreKept() {
        for (int k = 0; k <= 1; k++) {
            for (int base : new int[] {2, 3, 5}) {
                Run run = fill(run("promise 16: SLOTS and BASE are kept").then("base", base), 0, 90);
                run.is(1, "image", k);
                // the call itself changes neither
                run.is(base, "count", 2).holds(0, n -> n == 90).holds(5, n -> n == 95);
                run.then("base", base == 3 ? 5 : 3).is(1, "restore", k).is(base, "count", 2);
                for (int slot = 0; slot <= 5; slot++) {
                    int a = 90 + slot;
                    run.holds(slot, n -> n == a);
                }
            }
        }
    }

    private static void promise16OfAnObjectAsNew() {
        Run run = run("promise 16: an IMAGE of SLOTS that hold no NUMBER is kept too").is(1, "image", 1)
            .is(2, "count", 4);
        fill(run, 4, 0).then("base", 5);
        counts(fill(run, 1, 0).is(1, "restore", 1), 0, 1, 2, 6, 2);
    }

    private static void promise16InPlaceOfWhatWasKept() {
        Run run = run("promise 16: in place of what was kept there").then("put", 0, 0, 8, 0).then("image", 0)
            .then("image", 1);
        run.then("base", 3).then("put", 1, 0, 9, 0).is(1, "image", 0).then("base", 5);
        run.is(1, "restore", 0).is(3, "count", 2).is(1, "count", 0).holds(1, n -> n == 9).holds(0, n -> false);
        // the other one is as it was
        run.is(1, "restore", 1).is(2, "count", 2).is(1, "count", 0).holds(0, n -> n == 8).holds(1, n -> false);
    }

    private static void promise16LaterCallsDoNotReachIt() {
        String sentence = "promise 16: what is kept, is kept: later calls change SLOTS and BASE alone";
        Call[] later = {
            new Call("base", 2), new Call("base", 5), new Call("put", 0, 4, 0, 0), new Call("join", 0, 0, 1, 3),
            new Call("turn", 0, 0), new Call("shift", 0, 0, 1), new Call("stretch", 0, 0, 2, 1),
            new Call("shrink", 0, 0, 2, 1), new Call("image", 1), new Call("restore", 0)};
        for (Call call : later) {
            NumberMachines x = new NumberMachines();
            x.put(0, 2, 5, 9);
            x.put(1, 0, 4, 0);
            x.image(0);
            call.on(x);
            due.is("[" + sentence + "] restore(0) behind " + call, x.restore(0), 1);
            due.is("[" + sentence + "] BASE behind " + call, x.count(2), 2);
            for (int n = 0; n < 100; n++) {
                due.is("[" + sentence + "] has(0, " + n + ") behind " + call, x.has(0, n), n % 9 == 5 ? 1 : 0);
                due.is("[" + sentence + "] has(1, " + n + ") behind " + call, x.has(1, n), n == 4 ? 1 : 0);
            }
        }
    }

    // ---- promise 17

    private static void promise17NumberK() {
        Run run = run("promise 17: an IMAGE (0, 1); OUTSIDE").then("put", 0, 0, 8, 0).then("image", 0).then("base", 3)
            .then("put", 1, 0, 9, 0).then("image", 1).then("put", 2, 0, 10, 0);
        run.takes(new Call("restore", 0)).takes(new Call("restore", 1));
        for (int k : NO_IMAGE) {
            run.refuses(OUTSIDE, "restore", k);
        }
        run.is(1, "restore", 0).is(1, "restore", 1);
    }

    private static void promise17NothingWasKept() {
        String sentence = "promise 17: AMISS: nothing was kept in it";
        run(sentence).then("put", 0, 4, 0, 0).refuses(AMISS, "restore", 0).refuses(AMISS, "restore", 1);
        for (int k = 0; k <= 1; k++) {
            Run run = run(sentence).then("base", 3).then("image", k).then("put", 0, 0, 7, 0);
            run.takes(new Call("restore", k)).refuses(AMISS, "restore", 1 - k);
            // neither that it is refused, nor that an IMAGE is refused, keeps anything
            run.is(AMISS, "restore", 1 - k).is(OUTSIDE, "image", 2).is(OUTSIDE, "image", -1)
                .refuses(AMISS, "restore", 1 - k);
        }
    }

    private static void promise17OutsideAheadOfAmiss() {
        for (int k : NO_IMAGE) {
            edges.refused("promise 17: OUTSIDE, though nothing was kept there", OUTSIDE, new Call("restore", k));
        }
    }

    private static void promise17AsTheyWere() {
        String sentence = "promise 17: they are as they were when they were kept";
        Run run = fill(run(sentence).then("base", 5), 2, 0).then("image", 0);
        fill(run.then("base", 2), 0, 0).is(1, "restore", 0).is(5, "count", 2);
        for (int slot = 0; slot <= 5; slot++) {
            int a = slot;
            run.tells(slot, 0, 7, 7, 1, 0, 1).holds(slot, n -> n % 7 == a);
        }
        // machines go by the BASE that was kept: there is a FIGURE 4 again, and SETS that are made have STATES by 5
        run.takes(new Call("state", 0, 0, 4)).is(3, "put", 0, 2, 3, 5);
    }

    private static void promise17TheImageStays() {
        Run run = run("promise 17: the IMAGE stays: 1").then("put", 3, 2, 1, 2).then("image", 0).then("image", 1);
        for (int time = 0; time < 3; time++) {
            run.then("put", 3, 3, 0, 0).is(1, "restore", 0).is(3, "count", 4).holds(3, n -> n % 2 == 1);
            run.then("base", 3).is(1, "restore", 1).is(3, "count", 4).is(2, "count", 2).holds(3, n -> n % 2 == 1);
        }
    }

    private static void promise17WhatIsJustNotLarge() {
        // 57 by 58, moved by 97, has 64 STATES by 5, 41 by 2 and 66 by 3: there it would be LARGE
        Run run = run("promise 17: a SET that is just not LARGE is given back, whatever BASE is").then("base", 5);
        run.then("put", 0, 2, 57, 58).is(64, "shift", 0, 0, 97).then("put", 1, 1, 100, 0).is(6, "shift", 1, 1, 20);
        run.is(14, "put", 2, 2, 0, 60).then("image", 1);
        for (int base : new int[] {2, 3, 5}) {
            run.then("base", base).is(1, "restore", 1).is(5, "count", 2).tells(0, 97, 58, 64).tells(1, 120, 1, 6)
                .tells(2, 0, 60, 14).holds(0, n -> n >= 97 && (n - 97) % 58 == 57);
        }
    }

    // ---- promise 18

    private static void promise18What() {
        edges.range("promise 18: what (0 to 4); OUTSIDE", new Call("count", 0), 0, 0, 4, OUTSIDE);
    }

    private static void promise18SlotsThatHoldAny() {
        Run run = run("promise 18: how many SLOTS hold any NUMBER (0)").is(0, "count", 0);
        // as little as can be: 0 alone, 119 alone, 59 by 60
        run.then("put", 0, 0, 0, 0).is(1, "count", 0).then("put", 5, 0, 100, 0).then("shift", 5, 5, 19)
            .is(2, "count", 0);
        run.then("put", 1, 2, 59, 60).is(3, "count", 0).then("put", 2, 4, 0, 0).is(4, "count", 0);
        run.then("put", 3, 1, 100, 0).is(5, "count", 0).then("put", 4, 0, 0, 0).is(6, "count", 0);
        run.then("put", 4, 3, 0, 0).is(5, "count", 0).then("join", 5, 5, 5, 3).is(4, "count", 0).then("base", 2)
            .is(0, "count", 0);
    }

    private static void promise18UnlikeSets() {
        String sentence = "promise 18: how many unlike SETS they hold (1)";
        Run run = run(sentence).is(1, "count", 1);
        for (int slot = 0; slot <= 5; slot++) {
            run.then("put", slot, 0, slot, 0).is(slot == 5 ? 6 : slot + 2, "count", 1);
        }
        for (int slot = 0; slot <= 5; slot++) {
            run.then("put", slot, 4, 0, 0).is(slot == 5 ? 1 : 6 - slot, "count", 1);
        }
        // the same SET made in six ways is one
        run.then("put", 0, 1, 0, 0).then("put", 1, 2, 0, 1).then("turn", 2, 3).then("turn", 2, 2)
            .then("shift", 3, 3, -100);
        run.then("put", 4, 1, 20, 0).then("shrink", 4, 4, 12, 20).is(1, "count", 1);
        // unlike in 119 alone, in START alone, in PERIOD alone
        run.then("put", 0, 0, 100, 0).then("shift", 0, 0, 19).is(2, "count", 1).then("turn", 0, 0).is(2, "count", 1);
        run.then("put", 1, 1, 1, 0).is(3, "count", 1).then("put", 2, 2, 0, 2).is(4, "count", 1);
        run.then("put", 4, 2, 1, 2).is(5, "count", 1).then("shift", 3, 2, 2).is(6, "count", 1);
        // 0 alone, all and none: all three come round by 1
        run(sentence).then("put", 0, 0, 0, 0).then("put", 1, 4, 0, 0).is(3, "count", 1);
        // START 120 and PERIOD 1 all three: they part in 100, and in 118
        run(sentence).then("put", 0, 0, 100, 0).then("shift", 1, 0, 19).then("join", 0, 0, 1, 0).then("shift", 2, 1, -1)
            .then("join", 2, 1, 2, 0).tells(0, 120, 1).tells(1, 120, 1).tells(2, 120, 1).is(4, "count", 1);
    }

    private static void promise18Base() {
        run("promise 18: BASE (2)").is(2, "count", 2).then("base", 3).is(3, "count", 2).then("base", 5)
            .is(5, "count", 2)
            .is(OUTSIDE, "base", 4).is(5, "count", 2).then("base", 2).is(2, "count", 2);
    }

    private static void promise18StatesOfAll() {
        Run run = run("promise 18: STATES of all SLOTS' SETS, added (3)").is(6, "count", 3);
        // the least there can be, and the most: six SETS of 64 STATES, though it is one SET
        for (int slot = 0; slot <= 5; slot++) {
            run.then("put", slot, 2, 52, 53).is(64, "shift", slot, slot, 78).is(6 + 63 * (slot + 1), "count", 3);
        }
        run.is(384, "count", 3).is(1, "count", 1).then("put", 5, 4, 0, 0).is(321, "count", 3).then("base", 3)
            .is(6, "count", 3);
    }

    private static void promise18ImagesKept() {
        String sentence = "promise 18: which IMAGES are kept (4: 1 the first, 2 the second, added)";
        run(sentence).is(0, "count", 4).then("image", 0).is(1, "count", 4).then("image", 0).is(1, "count", 4)
            .then("image", 1).is(3, "count", 4).then("base", 5).is(3, "count", 4).then("restore", 0).is(3, "count", 4);
        run(sentence).then("image", 1).is(2, "count", 4).is(AMISS, "restore", 0).is(2, "count", 4).then("restore", 1)
            .is(2, "count", 4).is(OUTSIDE, "image", 2).is(2, "count", 4).then("image", 0).is(3, "count", 4);
    }
}
