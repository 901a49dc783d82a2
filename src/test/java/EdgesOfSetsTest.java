/** The edges that promises 1 to 8 name: a test for each sentence. */
public final class EdgesOfSetsTest {
    private static final int UNKNOWN = NumberMachines.UNKNOWN, OUTSIDE = NumberMachines.OUTSIDE;
    private static final int AMISS = NumberMachines.AMISS, FULL = NumberMachines.FULL, NONE = NumberMachines.NONE;
    private static final int LEAST = Integer.MIN_VALUE, MOST = Integer.MAX_VALUE;
    private static final int[] BASES = {2, 3, 5};

    private static final Due due = new Due();
    private static final Edges edges = new Edges(due);

    public static void main(String[] args) {
        promise1AllSlotsHoldNoNumber();
        promise1BaseIs2();
        promise1NoImageIsKept();
        promise1ObjectsShareNothing();
        promise2BaseIs2Or3Or5();
        promise2AllSlotsHoldNoNumberThen();
        promise2TellsWhichItWas();
        promise3Slots();
        promise3Kinds();
        promise3NumberA();
        promise3NumberAIsNoMatter();
        promise3NumberM();
        promise3NumberMIsOfKind2Alone();
        promise3AloneAtItsEdges();
        promise3NoLessAtItsEdges();
        promise3RemainderAtItsEdges();
        promise3NoneAndAll();
        promise3IsNeverFull();
        promise3UnknownAheadOfOutside();
        promise4AllThreeSlots();
        promise4Ways();
        promise4WaysOfNoneAndAll();
        promise4OneSlotThrice();
        promise4FirstAnswerThatFits();
        promise5BothSlots();
        promise5NoneAndAll();
        promise5TheSameSlot();
        promise5IsNeverFull();
        promise6BothSlots();
        promise6NumberC();
        promise6AtTheFarthest();
        promise6WhatFallsBelow0();
        promise6NoneAndAll();
        promise6FirstAnswerThatFits();
        promise7BothSlots();
        promise7NumberC();
        promise7NumberD();
        promise7AtTheFarthest();
        promise7NoneAndAll();
        promise7FirstAnswerThatFits();
        promise8BothSlots();
        promise8NumberC();
        promise8NumberD();
        promise8AtTheFarthest();
        promise8ComesRound();
        promise8NoneAndAll();
        promise8FirstAnswerThatFits();
        due.end();
    }

    private static Run run(String sentence) {
        return new Run(due, sentence);
    }

    private static Call call(String name, int... numbers) {
        return new Call(name, numbers);
    }

    // ---- promise 1

    private static void promise1AllSlotsHoldNoNumber() {
        Run run = run("promise 1: all SLOTS hold the SET of no NUMBER");
        for (int slot = 0; slot <= 5; slot++) {
            run.tells(slot, 0, 1, 1, 0, 0, 0);
            run.is(NONE, "next", slot, 0).is(NONE, "next", slot, 1000000000).is(0, "below", slot, 1000000000);
            run.holds(slot, n -> false);
        }
        run.is(0, "count", 0).is(1, "count", 1).is(6, "count", 3);
    }

    private static void promise1BaseIs2() {
        String sentence = "promise 1: BASE is 2";
        run(sentence).is(2, "count", 2).is(0, "state", 0, 0, 1).is(AMISS, "state", 0, 0, 2);
        run(sentence).is(2, "base", 2);
        run(sentence).is(3, "put", 0, 2, 0, 2);
    }

    private static void promise1NoImageIsKept() {
        String sentence = "promise 1: no IMAGE is kept";
        run(sentence).is(0, "count", 4);
        run(sentence).refuses(AMISS, "restore", 0).refuses(AMISS, "restore", 1);
    }

    private static void promise1ObjectsShareNothing() {
        NumberMachines first = new NumberMachines();
        first.base(5);
        first.put(0, 4, 0, 0);
        first.image(1);
        run("promise 1: a new object, behind one that was used").tells(0, 0, 1, 1, 0, 0, 0)
            .is(0, "count", 0).is(2, "count", 2).is(0, "count", 4).is(AMISS, "restore", 1);
        due.is("promise 1: the first object is as it was", first.count(2), 5);
        due.is("promise 1: the first object is as it was", first.has(0, 0), 1);
    }

    // ---- promise 2

    private static void promise2BaseIs2Or3Or5() {
        String sentence = "promise 2: BASE is 2, 3, or 5; OUTSIDE";
        for (int n : BASES) {
            edges.taken(sentence, call("base", n));
            run(sentence).is(2, "base", n).is(n, "count", 2);
        }
        for (int n : new int[] {1, 4, 6, 0, -1, -2, -3, -5, 10, LEAST, MOST}) {
            edges.refused(sentence, OUTSIDE, call("base", n));
        }
    }

    private static void promise2AllSlotsHoldNoNumberThen() {
        for (int before : BASES) {
            for (int after : BASES) {
                Run run = run("promise 2: all SLOTS hold the SET of no NUMBER (also if BASE was the same)");
                run.then("base", before);
                for (int slot = 0; slot <= 5; slot++) {
                    run.then("put", slot, slot % 2 == 0 ? 4 : 1, slot, 0);
                }
                run.is(6, "count", 0).is(before, "base", after);
                for (int slot = 0; slot <= 5; slot++) {
                    run.tells(slot, 0, 1, 1, 0, 0, 0).is(NONE, "next", slot, 0);
                }
                run.is(0, "count", 0).is(1, "count", 1).is(after, "count", 2).is(6, "count", 3);
            }
        }
    }

    private static void promise2TellsWhichItWas() {
        Run run = run("promise 2: which it was");
        run.is(2, "base", 2).is(2, "base", 3).is(3, "base", 3).is(3, "base", 5).is(5, "base", 5).is(5, "base", 2);
        run.is(2, "base", 5).is(OUTSIDE, "base", 4).is(5, "base", 3);
        // an IMAGE gives BASE back, and then that is which it was
        run.is(1, "image", 0).is(3, "base", 2).is(1, "restore", 0).is(3, "base", 5);
    }

    // ---- promise 3

    private static void promise3Slots() {
        edges.slots("promise 3: a SLOT (0 to 5); UNKNOWN", call("put", 0, 0, 0, 0), 0);
        edges.slots("promise 3: a SLOT (0 to 5); UNKNOWN", call("put", 0, 2, 100, 60), 0);
    }

    private static void promise3Kinds() {
        edges.range("promise 3: kind (0 to 4); OUTSIDE", call("put", 5, 0, 100, 60), 1, 0, 4, OUTSIDE);
    }

    private static void promise3NumberA() {
        for (int kind = 0; kind <= 2; kind++) {
            edges.range("promise 3: a (0 to 100); OUTSIDE", call("put", 0, kind, 0, 60), 2, 0, 100, OUTSIDE);
        }
    }

    private static void promise3NumberAIsNoMatter() {
        String sentence = "promise 3: of kinds 3 and 4, a is no matter";
        for (int a : new int[] {-1, 0, 100, 101, LEAST, MOST}) {
            run(sentence).is(1, "put", 0, 3, a, 1).tells(0, 0, 1, 1, 0, 0, 0);
            run(sentence).is(1, "put", 0, 4, a, 1).tells(0, 0, 1, 1, 1, 0, 1);
        }
    }

    private static void promise3NumberM() {
        String sentence = "promise 3: m (1 to 60); OUTSIDE";
        edges.range(sentence, call("put", 0, 2, 0, 1), 3, 1, 60, OUTSIDE);
        edges.range(sentence, call("put", 0, 2, 100, 1), 3, 1, 60, OUTSIDE);
        // a is as told, and m is not, and the other way, and neither
        edges.refused(sentence, OUTSIDE, call("put", 0, 2, 101, 60), call("put", 0, 2, 100, 61),
            call("put", 0, 2, 101, 61));
    }

    private static void promise3NumberMIsOfKind2Alone() {
        String sentence = "promise 3: m is of kind 2 alone";
        for (int m : new int[] {-1, 0, 1, 60, 61, LEAST, MOST}) {
            run(sentence).is(2, "put", 0, 0, 0, m).tells(0, 1, 1, 2, 1, 1, 0);
            run(sentence).is(2, "put", 0, 1, 1, m).tells(0, 1, 1, 2, 1, 0, 1);
            run(sentence).is(1, "put", 0, 3, 0, m).tells(0, 0, 1, 1, 0, 0, 0);
            run(sentence).is(1, "put", 0, 4, 0, m).tells(0, 0, 1, 1, 1, 0, 1);
        }
    }

    private static void promise3AloneAtItsEdges() {
        String sentence = "promise 3: kind 0: a alone";
        run(sentence).is(2, "put", 0, 0, 0, 0).tells(0, 1, 1, 2, 1, 1, 0).holds(0, n -> n == 0);
        run(sentence).is(3, "put", 0, 0, 1, 0).tells(0, 2, 1, 3, 1, 1, 0).holds(0, n -> n == 1);
        // 100 has seven FIGURES by 2: a STATE behind each, one ahead of them, and that of no NUMBER
        run(sentence).is(9, "put", 5, 0, 100, 0).tells(5, 101, 1, 9, 1, 1, 0).holds(5, n -> n == 100);
        run(sentence).then("put", 0, 4, 0, 0).is(2, "put", 0, 0, 0, 0).holds(0, n -> n == 0);
    }

    private static void promise3NoLessAtItsEdges() {
        String sentence = "promise 3: kind 1: all NUMBERS no less than a";
        run(sentence).is(1, "put", 0, 1, 0, 0).tells(0, 0, 1, 1, 1, 0, 1).holds(0, n -> true);
        run(sentence).is(2, "put", 0, 1, 1, 0).tells(0, 1, 1, 2, 1, 0, 1).holds(0, n -> n >= 1);
        run(sentence).then("put", 0, 1, 100, 0).tells(0, 100, 1).holds(0, n -> n >= 100);
        run(sentence).then("base", 3).is(10, "put", 0, 1, 100, 0).holds(0, n -> n >= 100);
    }

    private static void promise3RemainderAtItsEdges() {
        String sentence = "promise 3: kind 2: all that leave as much by m as a does";
        for (int base : BASES) {
            Run run = run(sentence).then("base", base);
            run.is(1, "put", 0, 2, 0, 1).tells(0, 0, 1, 1, 1, 0, 1).holds(0, n -> true);
            run.is(1, "put", 0, 2, 100, 1).tells(0, 0, 1, 1, 1, 0, 1).holds(0, n -> true);
            run.then("put", 0, 2, 0, 60).tells(0, 0, 60).holds(0, n -> n % 60 == 0);
            run.then("put", 0, 2, 59, 60).tells(0, 0, 60).holds(0, n -> n % 60 == 59);
            run.then("put", 0, 2, 60, 60).tells(0, 0, 60).holds(0, n -> n % 60 == 0);
            run.then("put", 0, 2, 100, 60).tells(0, 0, 60).holds(0, n -> n % 60 == 40);
            run.then("put", 0, 2, 7, 7).tells(0, 0, 7).holds(0, n -> n % 7 == 0);
            run.then("put", 0, 2, 6, 7).tells(0, 0, 7).holds(0, n -> n % 7 == 6);
            run.then("put", 0, 2, 100, 2).tells(0, 0, 2).holds(0, n -> n % 2 == 0);
        }
    }

    private static void promise3NoneAndAll() {
        for (int base : BASES) {
            Run run = run("promise 3: kind 3: no NUMBER; 4: all").then("base", base);
            run.is(1, "put", 5, 4, 0, 0).tells(5, 0, 1, 1, 1, 0, 1).holds(5, n -> true);
            run.is(1, "put", 5, 3, 0, 0).tells(5, 0, 1, 1, 0, 0, 0).holds(5, n -> false);
        }
    }

    /** With all that is as told the SET is not LARGE, so that FULL, though the promise names it, fits nowhere. */
    private static void promise3IsNeverFull() {
        String sentence = "promise 3: START and PERIOD of each SET that can be put; never FULL";
        for (int base : BASES) {
            for (int m = 1; m <= 60; m++) {
                Run run = run(sentence).then("base", base);
                for (int a = 0; a <= 100; a++) {
                    run.then("put", 0, 2, a, m).is(0, "told", 0, 0).is(m, "told", 0, 1).is(1, "has", 0, a);
                }
            }
            Run run = run(sentence).then("base", base);
            for (int a = 0; a <= 100; a++) {
                run.then("put", 0, 0, a, 0).is(a + 1, "told", 0, 0).then("put", 0, 1, a, 0).is(a, "told", 0, 0);
            }
        }
    }

    private static void promise3UnknownAheadOfOutside() {
        edges.refused("promise 3: UNKNOWN, if OUTSIDE fits too", UNKNOWN,
            call("put", 6, 5, 0, 1), call("put", -1, 0, 101, 1), call("put", LEAST, 1, -1, 1), call("put", 6, 2, 0, 61),
            call("put", MOST, 2, 0, 0), call("put", 6, LEAST, LEAST, LEAST), call("put", 6, MOST, MOST, MOST));
    }

    // ---- promise 4

    private static void promise4AllThreeSlots() {
        for (int way = 0; way <= 3; way++) {
            edges.slots("promise 4: UNKNOWN: all three", call("join", 4, 2, 4, way), 0, 1, 2);
        }
    }

    private static void promise4Ways() {
        edges.range("promise 4: way (0 to 3); OUTSIDE", call("join", 5, 0, 1, 0), 3, 0, 3, OUTSIDE);
        edges.range("promise 4: way (0 to 3); OUTSIDE", call("join", 2, 2, 2, 0), 3, 0, 3, OUTSIDE);
    }

    private static void promise4WaysOfNoneAndAll() {
        // in the order none and none, none and all, all and none, all and all
        int[][] due = {{0, 1, 1, 1}, {0, 0, 0, 1}, {0, 0, 1, 0}, {0, 1, 1, 0}};
        for (int way = 0; way <= 3; way++) {
            for (int which = 0; which < 4; which++) {
                Run run = run("promise 4: each way, of the SETS of no NUMBER and of all").then("put", 1, 4, 0, 0);
                run.is(1, "join", 5, which / 2, which % 2, way);
                run.tells(5, 0, 1, 1, due[way][which], 0, due[way][which]);
            }
        }
    }

    private static void promise4OneSlotThrice() {
        String sentence = "promise 4: what two SLOTS hold, if these are one, and it is held there";
        for (int way = 0; way <= 3; way++) {
            boolean stays = way < 2;
            Run run = run(sentence).then("put", 3, 2, 1, 2).then("shift", 3, 3, 4);
            run.is(stays ? 5 : 1, "join", 3, 3, 3, way).holds(3, n -> stays && n >= 4 && n % 2 == 1);
        }
        // held in the place of the first one, and of the second one
        run(sentence).then("put", 0, 1, 9, 0).then("put", 1, 1, 4, 0).then("join", 0, 0, 1, 3)
            .holds(0, n -> n >= 4 && n < 9)
            .holds(1, n -> n >= 4);
        run(sentence).then("put", 0, 1, 4, 0).then("put", 1, 1, 9, 0).then("join", 1, 0, 1, 2)
            .holds(1, n -> n >= 4 && n < 9)
            .holds(0, n -> n >= 4);
    }

    private static void promise4FirstAnswerThatFits() {
        String sentence = "promise 4: UNKNOWN, then OUTSIDE, then FULL";
        Run run = run(sentence).then("put", 0, 2, 0, 60).then("put", 1, 2, 0, 59).then("image", 0);
        run.refuses(UNKNOWN, "join", 6, 0, 1, 4).refuses(UNKNOWN, "join", 2, 6, 1, -1)
            .refuses(UNKNOWN, "join", 2, 0, 6, 4);
        run.refuses(UNKNOWN, "join", 6, 0, 1, 0).refuses(UNKNOWN, "join", -1, 0, 1, 3);
        run.refuses(OUTSIDE, "join", 2, 0, 1, 4).refuses(OUTSIDE, "join", 2, 0, 1, -1);
        for (int way = 0; way <= 3; way++) {
            run.refuses(FULL, "join", 2, 0, 1, way).refuses(FULL, "join", 0, 0, 1, way)
                .refuses(FULL, "join", 1, 0, 1, way);
        }
    }

    // ---- promise 5

    private static void promise5BothSlots() {
        edges.slots("promise 5: UNKNOWN: both", call("turn", 4, 4), 0, 1);
        edges.refused("promise 5: UNKNOWN: both", UNKNOWN, call("turn", 6, 6), call("turn", -1, MOST));
    }

    private static void promise5NoneAndAll() {
        for (int base : BASES) {
            Run run = run("promise 5: of the SET of no NUMBER, all; of that of all, none").then("base", base);
            run.is(1, "turn", 0, 5).tells(0, 0, 1, 1, 1, 0, 1).holds(0, n -> true);
            run.is(1, "turn", 5, 0).tells(5, 0, 1, 1, 0, 0, 0).holds(5, n -> false);
        }
    }

    private static void promise5TheSameSlot() {
        Run run = run("promise 5: another one (or the same)").then("put", 2, 2, 5, 9).then("image", 0);
        run.is(9, "turn", 2, 2).holds(2, n -> n % 9 != 5).is(9, "turn", 3, 2).holds(3, n -> n % 9 == 5);
        run.holds(2, n -> n % 9 != 5).is(9, "turn", 2, 2).is(1, "alike", 2, 3, 0);
    }

    /** It has the same START and PERIOD, and as many STATES: FULL, though the promise names it, fits nowhere. */
    private static void promise5IsNeverFull() {
        String sentence = "promise 5: what is just not LARGE, turned, is not";
        // RESTS of no less than 120: no less than 60, 30, 15, 8, 7, 4, 3, 2, 1, 0
        run(sentence).then("put", 0, 1, 100, 0).is(11, "shift", 0, 0, 20).is(11, "turn", 0, 0)
            .tells(0, 120, 1, 11, 10, 120, 0).holds(0, n -> n < 120);
        // RESTS of 0 by 60: 0 by 30, none, and the fifteen by 15
        run(sentence).is(18, "put", 0, 2, 0, 60).is(18, "turn", 1, 0).tells(1, 0, 60, 18, 15, 0, 59);
        run(sentence).then("put", 0, 2, 0, 41).then("put", 1, 0, 4, 0).is(64, "join", 0, 0, 1, 0).is(64, "turn", 0, 0)
            .tells(0, 5, 41, 64).holds(0, n -> n % 41 != 0 && n != 4);
    }

    // ---- promise 6

    private static void promise6BothSlots() {
        edges.slots("promise 6: UNKNOWN: both", call("shift", 4, 4, 1), 0, 1);
        edges.slots("promise 6: UNKNOWN: both", call("shift", 4, 4, -100), 0, 1);
    }

    private static void promise6NumberC() {
        edges.range("promise 6: c (-100 to 100); OUTSIDE", call("shift", 4, 2, 0), 2, -100, 100, OUTSIDE);
        edges.range("promise 6: c (-100 to 100); OUTSIDE", call("shift", 4, 4, 0), 2, -100, 100, OUTSIDE);
    }

    private static void promise6AtTheFarthest() {
        String sentence = "promise 6: by c (-100 to 100) greater";
        for (int base : BASES) {
            Run run = run(sentence).then("base", base);
            run.then("put", 0, 0, 0, 0).then("shift", 1, 0, 100).holds(1, n -> n == 100);
            run.is(2, "shift", 2, 1, -100).holds(2, n -> n == 0);
            run.then("put", 0, 1, 20, 0).then("shift", 1, 0, 100).holds(1, n -> n >= 120).tells(1, 120, 1);
            run.then("put", 0, 2, 0, 60).then("shift", 1, 0, 100).holds(1, n -> n >= 100 && n % 60 == 40)
                .tells(1, 41, 60);
            run.then("shift", 1, 0, -100).holds(1, n -> n % 60 == 20).tells(1, 0, 60);
            run.then("shift", 1, 0, -99).holds(1, n -> n % 60 == 21);
            run.then("shift", 1, 0, 99).holds(1, n -> n >= 99 && n % 60 == 39);
            run.then("shift", 0, 0, 0).holds(0, n -> n % 60 == 0).tells(0, 0, 60);
        }
    }

    private static void promise6WhatFallsBelow0() {
        String sentence = "promise 6: all NUMBERS (not below 0)";
        run(sentence).then("put", 0, 0, 0, 0).is(1, "shift", 0, 0, -1).tells(0, 0, 1, 1, 0, 0, 0);
        run(sentence).then("put", 0, 0, 99, 0).is(1, "shift", 0, 0, -100).tells(0, 0, 1, 1, 0, 0, 0);
        run(sentence).then("put", 0, 0, 100, 0).is(2, "shift", 0, 0, -100).tells(0, 1, 1, 2, 1, 1, 0);
        run(sentence).then("put", 0, 1, 99, 0).is(1, "shift", 0, 0, -100).tells(0, 0, 1, 1, 1, 0, 1);
        run(sentence).then("put", 0, 2, 0, 3).is(3, "shift", 0, 0, -1).tells(0, 0, 3).holds(0, n -> n % 3 == 2);
        // what is below 0 does not come back
        run(sentence).then("put", 0, 0, 5, 0).then("put", 1, 1, 8, 0).then("join", 0, 0, 1, 0).then("shift", 0, 0, -6)
            .then("shift", 0, 0, 6).holds(0, n -> n >= 8).tells(0, 8, 1);
    }

    private static void promise6NoneAndAll() {
        String sentence = "promise 6: of the SETS of no NUMBER and of all";
        for (int c : new int[] {-100, -1, 0, 1, 100}) {
            run(sentence).is(1, "shift", 0, 5, c).tells(0, 0, 1, 1, 0, 0, 0);
            run(sentence).then("put", 0, 4, 0, 0).then("shift", 0, 0, c).holds(0, n -> n >= c)
                .tells(0, Math.max(0, c), 1);
        }
    }

    private static void promise6FirstAnswerThatFits() {
        Run run = run("promise 6: UNKNOWN, then OUTSIDE, then FULL").then("put", 0, 1, 100, 0).then("image", 1);
        run.refuses(UNKNOWN, "shift", 6, 0, 101).refuses(UNKNOWN, "shift", 0, 6, -101)
            .refuses(UNKNOWN, "shift", 6, 0, 100);
        run.refuses(OUTSIDE, "shift", 0, 0, 101).refuses(OUTSIDE, "shift", 1, 0, MOST)
            .refuses(OUTSIDE, "shift", 1, 0, LEAST);
        run.refuses(FULL, "shift", 0, 0, 100).refuses(FULL, "shift", 1, 0, 21);
    }

    // ---- promise 7

    private static void promise7BothSlots() {
        edges.slots("promise 7: UNKNOWN: both", call("stretch", 4, 4, 1, 0), 0, 1);
        edges.slots("promise 7: UNKNOWN: both", call("stretch", 4, 4, 2, 20), 0, 1);
    }

    private static void promise7NumberC() {
        edges.range("promise 7: c (1 to 12); OUTSIDE", call("stretch", 4, 2, 1, 0), 2, 1, 12, OUTSIDE);
        edges.range("promise 7: c (1 to 12); OUTSIDE", call("stretch", 4, 4, 1, 20), 2, 1, 12, OUTSIDE);
    }

    private static void promise7NumberD() {
        edges.range("promise 7: d (0 to 20); OUTSIDE", call("stretch", 4, 2, 1, 0), 3, 0, 20, OUTSIDE);
        edges.range("promise 7: d (0 to 20); OUTSIDE", call("stretch", 4, 4, 12, 0), 3, 0, 20, OUTSIDE);
    }

    private static void promise7AtTheFarthest() {
        String sentence = "promise 7: c (1 to 12) times one, and d (0 to 20), added";
        for (int base : BASES) {
            Run run = run(sentence).then("base", base);
            run.then("put", 0, 0, 0, 0).then("stretch", 1, 0, 12, 20).holds(1, n -> n == 20);
            run.is(2, "stretch", 1, 0, 12, 0).holds(1, n -> n == 0);
            run.then("put", 0, 0, 8, 0).then("stretch", 1, 0, 12, 20).holds(1, n -> n == 116);
            run.then("stretch", 1, 0, 12, 0).holds(1, n -> n == 96).then("stretch", 1, 0, 1, 20).holds(1, n -> n == 28);
            run.then("stretch", 0, 0, 1, 0).holds(0, n -> n == 8);
            run.then("put", 0, 2, 0, 5).then("stretch", 1, 0, 12, 20).holds(1, n -> n % 60 == 20).tells(1, 0, 60);
            run.then("put", 0, 2, 4, 5).then("stretch", 1, 0, 12, 20).holds(1, n -> n >= 68 && n % 60 == 8)
                .tells(1, 9, 60);
        }
    }

    private static void promise7NoneAndAll() {
        String sentence = "promise 7: of the SETS of no NUMBER and of all";
        for (int c : new int[] {1, 2, 12}) {
            for (int d : new int[] {0, 1, 20}) {
                run(sentence).is(1, "stretch", 0, 5, c, d).tells(0, 0, 1, 1, 0, 0, 0);
                // all is the same from d on, and ahead of it from where the next below d is missed
                run(sentence).then("put", 0, 4, 0, 0).then("stretch", 0, 0, c, d)
                    .holds(0, n -> n >= d && (n - d) % c == 0)
                    .tells(0, Math.max(0, d - c + 1), c);
            }
        }
    }

    private static void promise7FirstAnswerThatFits() {
        Run run = run("promise 7: UNKNOWN, then OUTSIDE, then FULL").then("put", 0, 2, 0, 60).then("image", 0);
        run.refuses(UNKNOWN, "stretch", 6, 0, 13, 21).refuses(UNKNOWN, "stretch", 1, 6, 0, 0);
        run.refuses(UNKNOWN, "stretch", 6, 0, 2, 0).refuses(UNKNOWN, "stretch", -1, 0, 12, 20);
        run.refuses(OUTSIDE, "stretch", 0, 0, 13, 0).refuses(OUTSIDE, "stretch", 0, 0, 2, 21);
        run.refuses(OUTSIDE, "stretch", 1, 0, 12, -1).refuses(OUTSIDE, "stretch", 1, 0, MOST, MOST);
        run.refuses(FULL, "stretch", 0, 0, 2, 0).refuses(FULL, "stretch", 1, 0, 12, 20);
    }

    // ---- promise 8

    private static void promise8BothSlots() {
        edges.slots("promise 8: UNKNOWN: both", call("shrink", 4, 4, 1, 0), 0, 1);
        edges.slots("promise 8: UNKNOWN: both", call("shrink", 4, 4, 12, 20), 0, 1);
    }

    private static void promise8NumberC() {
        edges.range("promise 8: c (1 to 12); OUTSIDE", call("shrink", 4, 1, 1, 0), 2, 1, 12, OUTSIDE);
        edges.range("promise 8: c (1 to 12); OUTSIDE", call("shrink", 4, 4, 1, 20), 2, 1, 12, OUTSIDE);
    }

    private static void promise8NumberD() {
        edges.range("promise 8: d (0 to 20); OUTSIDE", call("shrink", 4, 1, 1, 0), 3, 0, 20, OUTSIDE);
        edges.range("promise 8: d (0 to 20); OUTSIDE", call("shrink", 4, 4, 12, 0), 3, 0, 20, OUTSIDE);
    }

    private static void promise8AtTheFarthest() {
        String sentence = "promise 8: all of which c (1 to 12) times, and d (0 to 20), added, is in the other";
        for (int base : BASES) {
            Run run = run(sentence).then("base", base);
            run.then("put", 0, 0, 20, 0).is(2, "shrink", 1, 0, 12, 20).holds(1, n -> n == 0);
            run.then("put", 0, 0, 19, 0).is(1, "shrink", 1, 0, 12, 20).is(1, "shrink", 1, 0, 1, 20)
                .holds(1, n -> false);
            run.then("put", 0, 0, 100, 0).then("shift", 0, 0, 16).then("shrink", 1, 0, 12, 20).holds(1, n -> n == 8);
            run.then("shrink", 1, 0, 1, 0).holds(1, n -> n == 116).then("shrink", 1, 0, 1, 20).holds(1, n -> n == 96);
            run.is(1, "shrink", 1, 0, 12, 19).holds(1, n -> false);
            run.then("put", 0, 1, 20, 0).is(1, "shrink", 1, 0, 12, 20).tells(1, 0, 1, 1, 1, 0, 1);
            run.then("put", 0, 1, 21, 0).is(2, "shrink", 0, 0, 12, 20).tells(0, 1, 1, 2, 1, 0, 1);
        }
    }

    private static void promise8ComesRound() {
        String sentence = "promise 8: where c times, and d, added, goes round, many times";
        for (int base : BASES) {
            for (int c = 1; c <= 12; c++) {
                int times = c;
                Run run = run(sentence).then("base", base).then("put", 0, 2, 59, 60).then("put", 1, 2, 5, 13);
                run.then("put", 2, 0, 100, 0).then("join", 1, 1, 2, 3).then("put", 2, 1, 100, 0)
                    .then("shift", 2, 2, 20);
                for (int d : new int[] {0, 1, 11, 20}) {
                    run.then("shrink", 3, 0, c, d).holds(3, n -> (times * n + d) % 60 == 59);
                    run.then("shrink", 3, 1, c, d).holds(3, n -> times * n + d == 100 || (times * n + d) % 13 == 5);
                    run.then("shrink", 3, 2, c, d).holds(3, n -> times * n + d >= 120);
                }
            }
        }
    }

    private static void promise8NoneAndAll() {
        for (int c : new int[] {1, 2, 12}) {
            for (int d : new int[] {0, 1, 20}) {
                Run run = run("promise 8: of the SETS of no NUMBER and of all");
                run.is(1, "shrink", 0, 5, c, d).tells(0, 0, 1, 1, 0, 0, 0);
                run.then("put", 0, 4, 0, 0).is(1, "shrink", 0, 0, c, d).tells(0, 0, 1, 1, 1, 0, 1);
            }
        }
    }

    private static void promise8FirstAnswerThatFits() {
        // 54 by 55, moved by 72, has 63 STATES; moved by 71 it would have 65
        Run run = run("promise 8: UNKNOWN, then OUTSIDE, then FULL").then("put", 0, 2, 54, 55).then("shift", 0, 0, 72);
        run.refuses(UNKNOWN, "shrink", 6, 0, 13, 21).refuses(UNKNOWN, "shrink", 1, 6, 0, 0);
        run.refuses(UNKNOWN, "shrink", 6, 0, 1, 1).refuses(UNKNOWN, "shrink", MOST, 0, 1, 1);
        run.refuses(OUTSIDE, "shrink", 0, 0, 0, 1).refuses(OUTSIDE, "shrink", 0, 0, 13, 1);
        run.refuses(OUTSIDE, "shrink", 1, 0, 1, 21).refuses(OUTSIDE, "shrink", 1, 0, LEAST, LEAST);
        run.refuses(FULL, "shrink", 0, 0, 1, 1).refuses(FULL, "shrink", 1, 0, 1, 1);
    }
}
