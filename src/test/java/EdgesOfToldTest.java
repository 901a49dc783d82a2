import java.util.Set;
import java.util.TreeSet;

/** The edges that promises 9 to 15 name: a test for each sentence. */
public final class EdgesOfToldTest {
    private static final int UNKNOWN = NumberMachines.UNKNOWN, OUTSIDE = NumberMachines.OUTSIDE;
    private static final int AMISS = NumberMachines.AMISS, NONE = NumberMachines.NONE;
    private static final int LEAST = Integer.MIN_VALUE, MOST = Integer.MAX_VALUE;
    private static final int MILLIARD = 1000000000;
    private static final int[] BASES = {2, 3, 5};

    private static final Due due = new Due();
    private static final Edges edges = new Edges(due);

    public static void main(String[] args) {
        promise9Slot();
        promise9What();
        promise9StartAndPeriodAtTheirEdges();
        promise9StatesAndGoodOnes();
        promise9NumbersLessThanStart();
        promise9NumbersOfAPeriod();
        promise9UnknownAheadOfOutside();
        promise10Slot();
        promise10StateOfOne();
        promise10StateOfMany();
        promise10What();
        promise10FigureIsLessThanBase();
        promise10Good();
        promise10StepsFromState0();
        promise10StepsToAGoodOne();
        promise10StepsAmongMany();
        promise10NoWayFromTheLastOf64();
        promise10FirstAnswerThatFits();
        promise11Slot();
        promise11FiguresRead();
        promise11NumberIsNotBelow0();
        promise11NoFigure();
        promise11FiguresBehindTheLast();
        promise11UnknownAheadOfOutside();
        promise12SlotAndNumber();
        promise12AtTheFarthest();
        promise12NoneAndAll();
        promise13SlotAndNumber();
        promise13NoLessThanOne();
        promise13None();
        promise13BeyondTheLargest();
        promise14SlotAndNumber();
        promise14LessThanOne();
        promise14GoesRound();
        promise14AtTheFarthest();
        promise15BothSlots();
        promise15What();
        promise15NoneAndAll();
        promise15OneSlotTwice();
        promise15TheyPartInOneNumber();
        promise15AlikeInAllButOne();
        promise15TheyMeetLate();
        promise15UnknownAheadOfOutside();
        due.end();
    }

    private static Run run(String sentence) {
        return new Run(due, sentence);
    }

    private static Call call(String name, int... numbers) {
        return new Call(name, numbers);
    }

    private static Run alike(Run run, int one, int other, int... want) {
        for (int what = 0; what < want.length; what++) {
            run.is(want[what], "alike", one, other, what);
        }
        return run;
    }

    // ---- promise 9

    private static void promise9Slot() {
        for (int what = 0; what <= 5; what++) {
            edges.slots("promise 9: UNKNOWN", call("told", 0, what), 0);
        }
    }

    private static void promise9What() {
        edges.range("promise 9: what (0 to 5); OUTSIDE", call("told", 0, 0), 1, 0, 5, OUTSIDE);
        edges.range("promise 9: what (0 to 5); OUTSIDE", call("told", 5, 0), 1, 0, 5, OUTSIDE);
    }

    private static void promise9StartAndPeriodAtTheirEdges() {
        String sentence = "promise 9: START (0), PERIOD (1)";
        run(sentence).tells(0, 0, 1).then("put", 0, 4, 0, 0).tells(0, 0, 1);
        run(sentence).then("put", 0, 0, 0, 0).tells(0, 1, 1).then("put", 0, 1, 1, 0).tells(0, 1, 1);
        run(sentence).then("put", 0, 2, 0, 2).tells(0, 0, 2).then("put", 0, 2, 59, 60).tells(0, 0, 60);
        run(sentence).then("put", 0, 0, 100, 0).then("shift", 0, 0, 19).tells(0, 120, 1);
    }

    private static void promise9StatesAndGoodOnes() {
        String sentence = "promise 9: how many STATES (2), how many of them are GOOD (3)";
        run(sentence).is(1, "told", 0, 2).is(0, "told", 0, 3);
        run(sentence).then("put", 0, 4, 0, 0).is(1, "told", 0, 2).is(1, "told", 0, 3);
        run(sentence).then("put", 0, 0, 0, 0).is(2, "told", 0, 2).is(1, "told", 0, 3);
        // as many STATES as there can be: one is GOOD, and when the SET is turned, all others
        Run run = run(sentence).then("put", 0, 2, 52, 53).is(64, "shift", 0, 0, 78).is(64, "told", 0, 2);
        run.is(1, "told", 0, 3).is(64, "turn", 0, 0).is(64, "told", 0, 2).is(63, "told", 0, 3);
    }

    private static void promise9NumbersLessThanStart() {
        String sentence = "promise 9: how many of its NUMBERS are less than START (4)";
        run(sentence).is(0, "told", 0, 4).then("put", 0, 4, 0, 0).is(0, "told", 0, 4);
        run(sentence).then("put", 0, 0, 0, 0).is(1, "told", 0, 4).then("turn", 0, 0).is(0, "told", 0, 4);
        Run run = run(sentence).then("put", 0, 1, 100, 0).then("shift", 0, 0, 20).is(0, "told", 0, 4);
        run.then("turn", 0, 0).is(120, "told", 0, 4).is(0, "told", 0, 5);
        run.then("put", 0, 2, 59, 60).is(0, "told", 0, 4);
    }

    private static void promise9NumbersOfAPeriod() {
        String sentence = "promise 9: how many of PERIOD NUMBERS from START on (5)";
        run(sentence).is(0, "told", 0, 5).then("put", 0, 4, 0, 0).is(1, "told", 0, 5);
        run(sentence).then("put", 0, 2, 59, 60).is(1, "told", 0, 5).then("turn", 0, 0).is(59, "told", 0, 5);
        // the PERIOD from START on, 41 to 100, holds 100 as its last
        run(sentence).then("put", 0, 2, 0, 60).then("shift", 0, 0, 100).tells(0, 41, 60).is(0, "told", 0, 4)
            .is(1, "told", 0, 5).then("turn", 0, 0).is(41, "told", 0, 4).is(59, "told", 0, 5);
    }

    private static void promise9UnknownAheadOfOutside() {
        edges.refused("promise 9: UNKNOWN, if OUTSIDE fits too", UNKNOWN,
            call("told", 6, 6), call("told", -1, -1), call("told", LEAST, MOST), call("told", MOST, LEAST));
    }

    // ---- promise 10

    private static void promise10Slot() {
        for (int what : new int[] {0, 5, 6, 7}) {
            edges.slots("promise 10: UNKNOWN: the SLOT", call("state", 0, 0, what), 0);
        }
    }

    private static void promise10StateOfOne() {
        String sentence = "promise 10: UNKNOWN: the STATE, where there is STATE 0 alone";
        for (int kind = 3; kind <= 4; kind++) {
            Run run = run(sentence).then("put", 0, kind, 0, 0).then("image", 0);
            run.is(0, "state", 0, 0, 0).is(kind == 4 ? 1 : 0, "state", 0, 0, 5).is(0, "state", 0, 0, 6);
            for (int i : new int[] {-1, 1, 2, 63, 64, LEAST, MOST}) {
                for (int what = 0; what <= 7; what++) {
                    run.refuses(UNKNOWN, "state", 0, i, what);
                }
            }
        }
    }

    private static void promise10StateOfMany() {
        Run run = run("promise 10: UNKNOWN: the STATE, where there are 64").then("put", 0, 2, 52, 53)
            .is(64, "shift", 0, 0, 78).then("put", 1, 2, 0, 3);
        run.takes(call("state", 0, 63, 0)).takes(call("state", 0, 63, 5)).takes(call("state", 0, 63, 7));
        for (int i : new int[] {-1, 64, 65, 128, LEAST, MOST}) {
            run.refuses(UNKNOWN, "state", 0, i, 0).refuses(UNKNOWN, "state", 0, i, 5);
        }
        // each SLOT goes by its own STATES
        run.is(2, "state", 1, 2, 1).refuses(UNKNOWN, "state", 1, 3, 1).refuses(UNKNOWN, "state", 1, 63, 5);
        run.takes(call("state", 0, 3, 1));
    }

    private static void promise10What() {
        edges.range("promise 10: OUTSIDE: what (0 to 7)", call("state", 0, 0, 0), 2, 0, 7, OUTSIDE);
        edges.range("promise 10: OUTSIDE: what (0 to 7)", call("state", 5, 0, 0), 2, 0, 7, OUTSIDE);
    }

    private static void promise10FigureIsLessThanBase() {
        for (int base : BASES) {
            Run run = run("promise 10: AMISS: that is not less than BASE").then("base", base)
                .then("put", 0, 2, base - 1, base);
            for (int figure = 0; figure <= 4; figure++) {
                if (figure < base) {
                    run.is(figure == base - 1 ? 2 : 1, "state", 0, 0, figure).is(0, "state", 1, 0, figure);
                } else {
                    run.refuses(AMISS, "state", 0, 0, figure).refuses(AMISS, "state", 0, 2, figure);
                    run.refuses(AMISS, "state", 1, 0, figure);
                }
            }
        }
    }

    private static void promise10Good() {
        String sentence = "promise 10: whether it is GOOD (5: 1, 0)";
        run(sentence).is(0, "state", 0, 0, 5).then("put", 0, 4, 0, 0).is(1, "state", 0, 0, 5);
        run(sentence).then("put", 0, 0, 0, 0).is(1, "state", 0, 0, 5).is(0, "state", 0, 1, 5);
        run(sentence).then("put", 0, 1, 1, 0).is(0, "state", 0, 0, 5).is(1, "state", 0, 1, 5);
    }

    private static void promise10StepsFromState0() {
        String sentence = "promise 10: the least number of steps by which it is come to from STATE 0 (6)";
        run(sentence).is(0, "state", 0, 0, 6);
        // STATE 0 of 0 by 3 is also come to by a step from itself, or by two: none is the least
        run(sentence).then("put", 0, 2, 0, 3).is(0, "state", 0, 0, 6).is(1, "state", 0, 1, 6).is(2, "state", 0, 2, 6);
        // 119 has seven FIGURES by 2, of which the last is read by the seventh step
        Run run = run(sentence).then("put", 0, 0, 100, 0).is(9, "shift", 0, 0, 19);
        run.is(0, "state", 0, 0, 6).is(1, "state", 0, 1, 6).is(1, "state", 0, 2, 6).is(7, "state", 0, 8, 6);
    }

    private static void promise10StepsToAGoodOne() {
        String sentence = "promise 10: the least number of such steps from it to a GOOD one (7; NONE: there is no way)";
        run(sentence).is(NONE, "state", 0, 0, 7).then("put", 0, 4, 0, 0).is(0, "state", 0, 0, 7);
        run(sentence).then("put", 0, 0, 0, 0).is(0, "state", 0, 0, 7).is(NONE, "state", 0, 1, 7);
        run(sentence).then("put", 0, 1, 1, 0).is(1, "state", 0, 0, 7).is(0, "state", 0, 1, 7);
        Run run = run(sentence).then("put", 0, 0, 100, 0).is(9, "shift", 0, 0, 19);
        run.is(7, "state", 0, 0, 7).is(NONE, "state", 0, 1, 7).is(6, "state", 0, 2, 7).is(0, "state", 0, 8, 7);
    }

    private static void promise10StepsAmongMany() {
        steps(2, 53, 78);
        steps(3, 56, 82);
        steps(5, 58, 84);
    }

    /** The last by m, moved by c, has 64 STATES: ways from the first to each, and from each to a GOOD one. */
    private static void steps(int base, int m, int c) {
        Known set = Known.of(n -> n >= c && (n - c) % m == m - 1, 400, m);
        due.is("promise 10: STATES are found", set.trace(base, 64) ? 1 : 0, 1);
        Run run = run("promise 10: steps (6, 7), where there are 64 STATES").then("base", base);
        run.then("put", 0, 2, m - 1, m).is(64, "shift", 0, 0, c);
        stepsOfAll(run, set);
    }

    private static void stepsOfAll(Run run, Known set) {
        for (int i = 0; i < 64; i++) {
            int state = i;
            run.is(set.steps(0, n -> n == state), "state", 0, i, 6).is(set.steps(i, set.good::get), "state", 0, i, 7);
        }
    }

    /** 0 by 6, but for some NUMBERS: of its 64 STATES the one that is met last is that of no NUMBER. */
    private static void promise10NoWayFromTheLastOf64() {
        Set<Integer> turned = Set.of(11, 13, 18, 23, 26, 27, 28, 29, 33, 42, 45, 46, 50, 53, 63, 67, 68, 69, 70, 71, 72,
            73, 74, 75, 78, 81, 82, 83, 88, 89, 90, 92, 95, 96, 97, 98, 99, 102, 111);
        Known set = Known.of(n -> (n % 6 == 0) != turned.contains(n), 112, 6);
        due.is("promise 10: STATES are found", set.trace(2, 64) ? 1 : 0, 1);
        Run run = run("promise 10: NONE (7): no way from the last of 64 STATES").then("put", 0, 2, 0, 6);
        // by rising NUMBERS there are never more than 64 STATES on the way
        for (int n : new TreeSet<>(turned)) {
            run.then("put", 1, 0, n - 11, 0).then("shift", 1, 1, 11).then("join", 0, 0, 1, 3);
        }
        run.tells(0, 112, 6, 64).is(63, "state", 0, 63, 0).is(63, "state", 0, 63, 1).is(0, "state", 0, 63, 5);
        run.is(6, "state", 0, 63, 6).is(NONE, "state", 0, 63, 7);
        stepsOfAll(run, set);
    }

    private static void promise10FirstAnswerThatFits() {
        String sentence = "promise 10: UNKNOWN, then OUTSIDE, then AMISS";
        edges.refused(sentence, UNKNOWN, call("state", 6, 0, 8), call("state", -1, 0, -1), call("state", 6, 64, 8),
            call("state", 0, -1, 8), call("state", 0, 64, LEAST), call("state", 6, 0, 4),
            call("state", MOST, MOST, MOST));
        Run run = run(sentence).then("put", 0, 2, 0, 3);
        run.refuses(UNKNOWN, "state", 0, 3, 2).refuses(UNKNOWN, "state", 0, 3, 8).refuses(UNKNOWN, "state", 6, 2, 2);
        run.refuses(OUTSIDE, "state", 0, 2, 8).refuses(OUTSIDE, "state", 0, 2, -1);
        run.refuses(AMISS, "state", 0, 2, 2).refuses(AMISS, "state", 0, 2, 4);
    }

    // ---- promise 11

    private static void promise11Slot() {
        edges.slots("promise 11: UNKNOWN: the SLOT", call("walk", 0, 0, 0), 0);
        edges.slots("promise 11: UNKNOWN: the SLOT", call("walk", 0, MOST, 40), 0);
    }

    private static void promise11FiguresRead() {
        edges.range("promise 11: OUTSIDE: n (0 to 40)", call("walk", 0, 0, 0), 2, 0, 40, OUTSIDE);
        edges.range("promise 11: OUTSIDE: n (0 to 40)", call("walk", 0, MOST, 0), 2, 0, 40, OUTSIDE);
    }

    private static void promise11NumberIsNotBelow0() {
        String sentence = "promise 11: OUTSIDE: the NUMBER is below 0";
        edges.taken(sentence, call("walk", 1, 0, 3), call("walk", 1, MILLIARD + 1, 3), call("walk", 1, MOST, 3));
        edges.refused(sentence, OUTSIDE, call("walk", 1, -1, 3), call("walk", 1, -1, 0), call("walk", 1, LEAST, 3),
            call("walk", 1, LEAST, 0), call("walk", 1, LEAST, 40), call("walk", 1, -1, 41), call("walk", 1, -1, -1));
    }

    private static void promise11NoFigure() {
        String sentence = "promise 11: the first n FIGURES, if n is 0";
        for (int number : new int[] {0, 1, 5, 1000000000, MOST}) {
            run(sentence).then("put", 0, 2, 0, 3).is(0, "walk", 0, number, 0);
            run(sentence).then("put", 0, 0, 5, 0).is(0, "walk", 0, number, 0);
        }
    }

    private static void promise11FiguresBehindTheLast() {
        String sentence = "promise 11: behind its last one there are FIGURES 0";
        // 5 alone: STATE 1 is that of no NUMBER, and STATE 4 (0 alone) goes to itself by FIGURE 0
        Run run = run(sentence).then("put", 0, 0, 5, 0).is(4, "walk", 0, 5, 3).is(4, "walk", 0, 5, 4)
            .is(4, "walk", 0, 5, 40);
        run.is(3, "walk", 0, 5, 2).is(1, "walk", 0, 0, 1).is(1, "walk", 0, 0, 40).is(1, "walk", 0, 13, 4);
        // 0 by 3: a FIGURE 0 behind the last goes between STATES 1 and 2, so that each one read is seen
        run = run(sentence).then("put", 0, 2, 0, 3).is(1, "walk", 0, 1, 1).is(2, "walk", 0, 1, 2)
            .is(1, "walk", 0, 1, 39)
            .is(2, "walk", 0, 1, 40);
        // the largest int has 31 FIGURES 1 by 2
        run.is(0, "walk", 0, MOST, 30).is(1, "walk", 0, MOST, 31).is(2, "walk", 0, MOST, 32).is(1, "walk", 0, MOST, 39);
        run.is(2, "walk", 0, MOST, 40).is(0, "walk", 0, 0, 40);
        for (int base : BASES) {
            // a NUMBER that is BASE has the FIGURES 0 and 1
            run(sentence).then("base", base).then("put", 0, 0, base, 0).is(0, "state", 0, 0, 5)
                .is(1, "walk", 0, base, 1)
                .is(3, "walk", 0, base, 2).is(3, "walk", 0, base, 40).is(2, "walk", 0, base - 1, 1)
                .is(1, "walk", 0, base + base, 1);
        }
    }

    private static void promise11UnknownAheadOfOutside() {
        edges.refused("promise 11: UNKNOWN, if OUTSIDE fits too", UNKNOWN,
            call("walk", 6, -1, 3), call("walk", -1, 3, 41), call("walk", 6, LEAST, LEAST),
            call("walk", LEAST, -1, -1));
    }

    // ---- promises 12 to 14: a SLOT, and a NUMBER up to a thousand million

    private static void slotAndNumber(String promise, String name) {
        edges.slots(promise + "UNKNOWN", call(name, 0, 0), 0);
        edges.slots(promise + "UNKNOWN", call(name, 0, MILLIARD), 0);
        for (int slot = 0; slot <= 5; slot++) {
            edges.range(promise + "a NUMBER (0 to 1000000000); OUTSIDE", call(name, slot, 0), 1, 0, MILLIARD, OUTSIDE);
        }
        edges.refused(promise + "UNKNOWN, if OUTSIDE fits too", UNKNOWN,
            call(name, 6, -1), call(name, -1, MILLIARD + 1), call(name, MOST, LEAST), call(name, LEAST, MOST));
    }

    private static void promise12SlotAndNumber() {
        slotAndNumber("promise 12: ", "has");
    }

    private static void promise12AtTheFarthest() {
        String sentence = "promise 12: a NUMBER (0 to 1000000000)";
        // a thousand million leaves 40 by 60
        run(sentence).then("put", 0, 2, 40, 60).is(1, "has", 0, MILLIARD).is(0, "has", 0, MILLIARD - 1)
            .is(0, "has", 0, 0);
        run(sentence).then("put", 0, 2, 39, 60).is(0, "has", 0, MILLIARD).is(1, "has", 0, MILLIARD - 1);
        run(sentence).then("put", 0, 2, 40, 60).then("turn", 0, 0).is(0, "has", 0, MILLIARD).is(1, "has", 0, 0);
        // from a START on: 120 is the first that comes round
        run(sentence).then("put", 0, 1, 100, 0).then("shift", 0, 0, 20).is(0, "has", 0, 119).is(1, "has", 0, 120)
            .is(1, "has", 0, MILLIARD).is(0, "has", 0, 0);
        run(sentence).then("put", 0, 0, 100, 0).then("shift", 0, 0, 19).is(1, "has", 0, 119).is(0, "has", 0, 120)
            .is(0, "has", 0, 118).is(0, "has", 0, MILLIARD);
    }

    private static void promise12NoneAndAll() {
        String sentence = "promise 12: of the SETS of no NUMBER and of all (1, 0)";
        run(sentence).is(0, "has", 0, 0).is(0, "has", 0, 1).is(0, "has", 0, MILLIARD);
        run(sentence).then("put", 5, 4, 0, 0).is(1, "has", 5, 0).is(1, "has", 5, 1).is(1, "has", 5, MILLIARD);
    }

    private static void promise13SlotAndNumber() {
        slotAndNumber("promise 13: ", "next");
    }

    private static void promise13NoLessThanOne() {
        String sentence = "promise 13: the least NUMBER that is no less than one";
        run(sentence).then("put", 0, 0, 0, 0).is(0, "next", 0, 0).is(NONE, "next", 0, 1);
        run(sentence).then("put", 0, 4, 0, 0).is(0, "next", 0, 0).is(1, "next", 0, 1).is(MILLIARD, "next", 0, MILLIARD);
        run(sentence).then("put", 0, 2, 59, 60).is(59, "next", 0, 0).is(59, "next", 0, 59).is(119, "next", 0, 60);
        run(sentence).then("put", 0, 1, 100, 0).then("shift", 0, 0, 20).is(120, "next", 0, 0).is(120, "next", 0, 120)
            .is(121, "next", 0, 121);
        // ahead of START there is nothing, and the first of the PERIOD comes at its end: 41 to 100
        run(sentence).then("put", 0, 2, 0, 60).then("shift", 0, 0, 100).is(100, "next", 0, 0).is(100, "next", 0, 41)
            .is(100, "next", 0, 100).is(160, "next", 0, 101);
    }

    private static void promise13None() {
        String sentence = "promise 13: NONE";
        run(sentence).is(NONE, "next", 0, 0).is(NONE, "next", 0, 1).is(NONE, "next", 0, MILLIARD);
        run(sentence).then("put", 0, 0, 100, 0).then("shift", 0, 0, 19).is(119, "next", 0, 119).is(NONE, "next", 0, 120)
            .is(NONE, "next", 0, 121).is(NONE, "next", 0, MILLIARD);
        run(sentence).then("put", 0, 1, 100, 0).then("turn", 0, 0).is(99, "next", 0, 99).is(NONE, "next", 0, 100);
    }

    private static void promise13BeyondTheLargest() {
        // a thousand million leaves 40 by 60: what leaves 39 is by 59 farther
        run("promise 13: the least NUMBER may be greater than 1000000000").then("put", 0, 2, 39, 60)
            .is(MILLIARD + 59, "next", 0, MILLIARD).is(MILLIARD - 1, "next", 0, MILLIARD - 1)
            .then("put", 0, 2, 41, 60).is(MILLIARD + 1, "next", 0, MILLIARD)
            .then("put", 0, 2, 40, 60).is(MILLIARD, "next", 0, MILLIARD);
    }

    private static void promise14SlotAndNumber() {
        slotAndNumber("promise 14: ", "below");
    }

    private static void promise14LessThanOne() {
        String sentence = "promise 14: how many NUMBERS less than one";
        run(sentence).then("put", 0, 4, 0, 0).is(0, "below", 0, 0).is(1, "below", 0, 1).is(2, "below", 0, 2);
        run(sentence).then("put", 0, 0, 0, 0).is(0, "below", 0, 0).is(1, "below", 0, 1).is(1, "below", 0, MILLIARD);
        run(sentence).then("put", 0, 2, 59, 60).is(0, "below", 0, 59).is(1, "below", 0, 60).is(1, "below", 0, 119)
            .is(2, "below", 0, 120);
        // at START, at the end of the first PERIOD, and of the second one: 100, 160, 220
        run(sentence).then("put", 0, 2, 0, 60).then("shift", 0, 0, 100).is(0, "below", 0, 41).is(0, "below", 0, 100)
            .is(1, "below", 0, 101).is(1, "below", 0, 160).is(2, "below", 0, 161).is(2, "below", 0, 220)
            .is(3, "below", 0, 221);
    }

    /** Across START and the ends of many PERIODS, where START is no multiple of PERIOD: NUMBERS stand on all sides. */
    private static void promise14GoesRound() {
        String sentence = "promise 14: how many, ahead of START and round after round";
        for (int c : new int[] {1, 7, 31, 88}) {
            Run run = run(sentence).then("put", 0, 2, 0, 6).then("put", 1, 2, 4, 6).then("join", 0, 0, 1, 0)
                .then("put", 1, 0, 9, 0).then("join", 0, 0, 1, 0).then("shift", 0, 0, c);
            int found = 0;
            for (int number = 0; number <= 180; number++) {
                run.is(found, "below", 0, number);
                int n = number - c;
                found += n >= 0 && (n % 6 == 0 || n % 6 == 4 || n == 9) ? 1 : 0;
            }
        }
    }

    private static void promise14AtTheFarthest() {
        String sentence = "promise 14: less than 1000000000";
        run(sentence).is(0, "below", 0, 0).is(0, "below", 0, MILLIARD);
        run(sentence).then("put", 0, 4, 0, 0).is(MILLIARD, "below", 0, MILLIARD)
            .is(MILLIARD - 1, "below", 0, MILLIARD - 1);
        run(sentence).then("put", 0, 1, 1, 0).is(MILLIARD - 1, "below", 0, MILLIARD).is(0, "below", 0, 0);
        run(sentence).then("put", 0, 1, 100, 0).then("shift", 0, 0, 20).is(MILLIARD - 120, "below", 0, MILLIARD)
            .is(0, "below", 0, 120).is(1, "below", 0, 121).then("turn", 0, 0).is(120, "below", 0, MILLIARD)
            .is(120, "below", 0, 120).is(119, "below", 0, 119);
        // a thousand million is 16666666 times 60, and 40: of 59 in each 60 all but the last
        run(sentence).then("put", 0, 2, 59, 60).then("turn", 0, 0).is(MILLIARD - 16666666, "below", 0, MILLIARD);
    }

    // ---- promise 15

    private static void promise15BothSlots() {
        for (int what = 0; what <= 4; what++) {
            edges.slots("promise 15: UNKNOWN: both", call("alike", 0, 5, what), 0, 1);
        }
    }

    private static void promise15What() {
        edges.range("promise 15: what (0 to 4); OUTSIDE", call("alike", 0, 5, 0), 2, 0, 4, OUTSIDE);
        edges.range("promise 15: what (0 to 4); OUTSIDE", call("alike", 2, 2, 0), 2, 0, 4, OUTSIDE);
    }

    private static void promise15NoneAndAll() {
        String sentence = "promise 15: of the SETS of no NUMBER and of all";
        Run run = run(sentence).then("put", 1, 4, 0, 0).then("put", 3, 1, 0, 0);
        alike(run, 0, 2, 1, 1, 1, NONE, NONE);
        alike(run, 0, 1, 0, 1, 1, 0, NONE);
        alike(run, 1, 0, 0, 0, 1, 0, NONE);
        alike(run, 1, 3, 1, 1, 0, NONE, 0);
    }

    private static void promise15OneSlotTwice() {
        String sentence = "promise 15: of two SLOTS that are one";
        alike(run(sentence), 4, 4, 1, 1, 1, NONE, NONE);
        alike(run(sentence).then("put", 4, 4, 0, 0), 4, 4, 1, 1, 0, NONE, 0);
        alike(run(sentence).then("put", 4, 2, 59, 60), 4, 4, 1, 1, 0, NONE, 59);
        alike(run(sentence).then("put", 4, 0, 100, 0).then("shift", 4, 4, 19), 4, 4, 1, 1, 0, NONE, 119);
    }

    private static void promise15TheyPartInOneNumber() {
        String sentence = "promise 15: the least NUMBER that is in just one of them (3; NONE)";
        // the first NUMBER, and the last one that can be less than START
        alike(run(sentence).then("put", 0, 4, 0, 0).then("put", 1, 1, 1, 0), 0, 1, 0, 0, 0, 0, 1);
        alike(run(sentence).then("put", 0, 4, 0, 0).then("put", 1, 1, 1, 0), 1, 0, 0, 1, 0, 0, 1);
        Run run = run(sentence).then("put", 0, 4, 0, 0).then("put", 1, 0, 100, 0).then("shift", 1, 1, 19)
            .then("turn", 2, 1);
        alike(run, 0, 2, 0, 0, 0, 119, 0);
        alike(run, 2, 0, 0, 1, 0, 119, 0);
        alike(run, 1, 2, 0, 0, 1, 0, NONE);
        alike(run, 1, 3, 0, 0, 1, 119, NONE);
        alike(run, 3, 1, 0, 1, 1, 119, NONE);
        // made in two ways, they are one SET
        run = run(sentence).then("put", 0, 2, 0, 2).then("put", 1, 2, 1, 2).then("turn", 1, 1);
        alike(run, 0, 1, 1, 1, 0, NONE, 0);
        // the same but for the last of 60: 0 by 1 and all but 59 by 60
        run = run(sentence).then("put", 0, 4, 0, 0).then("put", 1, 2, 59, 60).then("turn", 1, 1);
        alike(run, 0, 1, 0, 0, 0, 59, 0);
        alike(run, 1, 0, 0, 1, 0, 59, 0);
    }

    private static void promise15AlikeInAllButOne() {
        String sentence = "promise 15: whether they are the same (what = 0: 1, 0)";
        // 0 alone and all: the same up to 0, and both come round by 1
        alike(run(sentence).then("put", 0, 4, 0, 0).then("put", 1, 0, 0, 0), 0, 1, 0, 0, 0, 1, 0);
        // START 120 and PERIOD 1 both, and they part in 100
        Run run = run(sentence).then("put", 0, 0, 100, 0).then("shift", 1, 0, 19).then("join", 2, 0, 1, 0)
            .tells(1, 120, 1).tells(2, 120, 1);
        alike(run, 1, 2, 0, 1, 0, 100, 119);
        alike(run, 2, 1, 0, 0, 0, 100, 119);
        // START 120 and PERIOD 60 both, and they part from 130 on
        run = run(sentence).then("put", 0, 1, 100, 0).then("shift", 0, 0, 20).then("put", 1, 2, 59, 60)
            .then("put", 2, 2, 10, 60);
        run.then("join", 2, 1, 2, 0).then("join", 1, 1, 0, 1).tells(1, 120, 60).then("join", 2, 2, 0, 1)
            .tells(2, 120, 60);
        alike(run, 1, 2, 0, 1, 0, 130, 179);
        run.is(4, "count", 1);
    }

    private static void promise15TheyMeetLate() {
        String sentence = "promise 15: whether no NUMBER is in both (2), the least one that is in both (4; NONE)";
        // 3659 leaves 59 by 60 and 1 by 59, as 119 does, which is taken out: no two SETS here meet first any later
        Run run = run(sentence).then("put", 0, 2, 59, 60).then("put", 2, 1, 100, 0).then("shift", 2, 2, 20);
        run.then("join", 0, 0, 2, 1).tells(0, 120, 60).then("put", 1, 2, 1, 59);
        alike(run, 0, 1, 0, 0, 0, 1, 3659);
        alike(run, 1, 0, 0, 0, 0, 1, 3659);
        // what is in the one and not in what is turned, is in both
        run.then("turn", 3, 1);
        alike(run, 0, 3, 0, 0, 0, 0, 179);
        alike(run, 1, 3, 0, 0, 1, 0, NONE);
        // by 60 and by 58 they are odd and even: they do not meet
        run = run(sentence).then("put", 0, 2, 59, 60).then("put", 1, 2, 0, 58);
        alike(run, 0, 1, 0, 0, 1, 0, NONE);
        run.then("turn", 1, 1);
        alike(run, 0, 1, 0, 1, 0, 1, 59);
    }

    private static void promise15UnknownAheadOfOutside() {
        edges.refused("promise 15: UNKNOWN, if OUTSIDE fits too", UNKNOWN, call("alike", 6, 0, 5),
            call("alike", 0, 6, -1), call("alike", -1, -1, 5), call("alike", LEAST, MOST, LEAST),
            call("alike", 6, 6, MOST));
    }
}
