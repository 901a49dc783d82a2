import java.util.function.IntPredicate;

/** The edges that 'Terms' names, and the constants: a test for each sentence. LARGE has its own, EdgesOfLargeTest. */
public final class EdgesOfTermsTest {
    private static final int UNKNOWN = NumberMachines.UNKNOWN, OUTSIDE = NumberMachines.OUTSIDE;
    private static final int AMISS = NumberMachines.AMISS, FULL = NumberMachines.FULL, NONE = NumberMachines.NONE;
    private static final int[] BASES = {2, 3, 5};

    private static final Due due = new Due();
    private static final Edges edges = new Edges(due);

    /** A call of each name that is taken, whatever is held; the numbers at the places told behind it are SLOTS. */
    private static final Call[] TAKEN = {
        new Call("put", 0, 4, 0, 0), new Call("join", 0, 0, 0, 0), new Call("turn", 0, 0), new Call("shift", 0, 0, 0),
        new Call("stretch", 0, 0, 1, 0), new Call("shrink", 0, 0, 1, 0), new Call("told", 0, 0),
        new Call("state", 0, 0, 5),
        new Call("walk", 0, 0, 0), new Call("has", 0, 0), new Call("next", 0, 0), new Call("below", 0, 0),
        new Call("alike", 0, 0, 0)};
    private static final int[] SLOTS_OF_TAKEN = {1, 3, 2, 2, 2, 2, 1, 1, 1, 1, 1, 1, 2};

    public static void main(String[] args) {
        constants();
        slotsAre0To5();
        firstAnswerThatFits();
        refusedCallsInARow();
        whatIsMadeBehindFull();
        whatIsJoinedBehindFull();
        periodIsTheLeast();
        startIsTheLeast();
        startAndPeriodOfNoneAndAll();
        figuresOfANumber();
        restsAndTheirNumbers();
        goodIf0IsInIt();
        theLastOf512Calls();
        due.end();
    }

    private static Run run(String sentence) {
        return new Run(due, sentence);
    }

    private static void constants() {
        int[] constants = {UNKNOWN, OUTSIDE, AMISS, FULL, NONE};
        int[] want = {-1, -2, -3, -4, -6};
        for (int k = 0; k < want.length; k++) {
            due.is("Terms: the constants", constants[k], want[k]);
        }
    }

    private static void slotsAre0To5() {
        for (int k = 0; k < TAKEN.length; k++) {
            for (int place = 0; place < SLOTS_OF_TAKEN[k]; place++) {
                edges.slots("Terms: SLOTS 0 to 5", TAKEN[k], place);
            }
        }
    }

    /** By each of two or three answers that fit: all pairs that can come about with one call. */
    private static void firstAnswerThatFits() {
        String sentence = "Terms: calls that are refused answer the first of these that fits";
        edges.refused(sentence, UNKNOWN, new Call("put", 6, 5, 0, 0), new Call("join", 6, 0, 0, 4),
            new Call("shift", 6, 0, 101),
            new Call("stretch", 6, 0, 13, 0), new Call("shrink", 0, 6, 1, 21), new Call("told", 6, 6),
            new Call("state", 0, 64, 8), new Call("walk", 6, -1, 0), new Call("has", 6, -1), new Call("next", 6, -1),
            new Call("below", 6, -1), new Call("alike", 0, 6, 5));
        Run run = run(sentence).then("put", 0, 2, 58, 59).then("put", 1, 2, 0, 60).then("put", 2, 1, 100, 0);
        // UNKNOWN and AMISS
        run.refuses(UNKNOWN, "state", 6, 0, 2).refuses(UNKNOWN, "state", 0, 59, 2).refuses(AMISS, "state", 0, 58, 2);
        // OUTSIDE and AMISS
        run.refuses(OUTSIDE, "restore", 2).refuses(AMISS, "restore", 1);
        // UNKNOWN and FULL
        run.refuses(UNKNOWN, "join", 6, 0, 1, 0).refuses(UNKNOWN, "shift", 6, 2, 21)
            .refuses(UNKNOWN, "stretch", 6, 1, 2, 0);
        // OUTSIDE and FULL
        run.refuses(OUTSIDE, "join", 3, 0, 1, 4).refuses(OUTSIDE, "shift", 3, 2, 101)
            .refuses(OUTSIDE, "stretch", 3, 1, 13, 0);
        run.refuses(OUTSIDE, "stretch", 3, 1, 2, 21);
        // FULL alone
        run.refuses(FULL, "join", 3, 0, 1, 0).refuses(FULL, "shift", 3, 2, 21).refuses(FULL, "stretch", 3, 1, 2, 0);
    }

    /** One behind the other on one object: at the end it is as one to which none of them was put. */
    private static void refusedCallsInARow() {
        String sentence = "Terms: what is refused changes nothing, however often";
        NumberMachines one = new NumberMachines();
        NumberMachines other = new NumberMachines();
        for (NumberMachines x : new NumberMachines[] {one, other}) {
            x.base(3);
            x.put(0, 2, 58, 59);
            x.put(1, 2, 0, 60);
            x.put(2, 1, 100, 0);
            x.image(0);
            x.put(3, 0, 5, 0);
        }
        for (int k = 0; k < TAKEN.length; k++) {
            for (int place = 0; place < SLOTS_OF_TAKEN[k]; place++) {
                due.is(sentence, TAKEN[k].with(place, 6).on(one), UNKNOWN);
                due.is(sentence, TAKEN[k].with(place, -1).on(one), UNKNOWN);
            }
        }
        for (int way = 0; way <= 3; way++) {
            due.is(sentence, one.join(way, 0, 1, way), FULL);
            due.is(sentence, one.stretch(way, 1, 2 + way, way), FULL);
            due.is(sentence, one.shift(way, 2, 21 + way), FULL);
        }
        int[] refused = {one.base(4), one.image(2), one.restore(2), one.count(5), one.restore(1), one.state(0, 0, 3)};
        int[] want = {OUTSIDE, OUTSIDE, OUTSIDE, OUTSIDE, AMISS, AMISS};
        for (int k = 0; k < want.length; k++) {
            due.is(sentence, refused[k], want[k]);
        }
        same(sentence, one, other);
        due.is(sentence, one.restore(0), other.restore(0));
        same(sentence, one, other);
    }

    private static void same(String sentence, NumberMachines one, NumberMachines other) {
        for (int what = 0; what <= 4; what++) {
            due.is(sentence + ": count(" + what + ")", one.count(what), other.count(what));
        }
        for (int slot = 0; slot <= 5; slot++) {
            for (int what = 0; what <= 5; what++) {
                due.is(sentence + ": told(" + slot + ", " + what + ")", one.told(slot, what), other.told(slot, what));
            }
            for (int number = 0; number <= 120; number += 15) {
                due.is(sentence + ": next(" + slot + ", " + number + ")", one.next(slot, number),
                    other.next(slot, number));
            }
        }
    }

    /** A call that is FULL leaves nothing behind that gets into the SET that the next one makes. */
    private static void whatIsMadeBehindFull() {
        String sentence = "Terms: what is refused changes nothing of what is made behind it";
        Call[] full = {new Call("join", 5, 0, 1, 3), new Call("stretch", 5, 1, 12, 20), new Call("shift", 5, 2, 100)};
        for (Call call : full) {
            for (int base : BASES) {
                Run run = run(sentence).then("base", base).then("put", 0, 2, 58, 59).then("put", 1, 2, 0, 60)
                    .then("put", 2, 1, 100, 0);
                run.refuses(FULL, call).is(1, "put", 3, 3, 0, 0).tells(3, 0, 1, 1, 0, 0, 0);
                run.refuses(FULL, call).is(1, "put", 3, 4, 0, 0).tells(3, 0, 1, 1, 1, 0, 1);
                run.refuses(FULL, call).then("turn", 3, 1).tells(3, 0, 60).holds(3, n -> n % 60 != 0);
                run.refuses(FULL, call).then("shift", 3, 2, 20).tells(3, 120, 1).holds(3, n -> n >= 120);
                run.refuses(FULL, call).then("shrink", 3, 0, 12, 20).tells(3, 0, 59)
                    .holds(3, n -> (12 * n + 20) % 59 == 58);
                run.refuses(FULL, call).is(2, "put", 3, 0, 0, 0).tells(3, 1, 1, 2, 1, 1, 0).holds(3, n -> n == 0);
            }
        }
    }

    /** The longest way round that still ends in a SET that is not LARGE: by 60 and by 58, which is by 1740. */
    private static void whatIsJoinedBehindFull() {
        Run run = run("Terms: what is refused changes nothing of what is joined behind it").then("put", 0, 2, 58, 59);
        run.then("turn", 0, 0).then("put", 1, 2, 0, 60).then("put", 4, 2, 1, 58);
        run.is(FULL, "join", 5, 0, 1, 0).is(18, "join", 3, 1, 4, 2).tells(3, 0, 60, 18).holds(3, n -> n % 60 == 0);
        run.is(FULL, "join", 5, 0, 1, 3).is(1, "join", 3, 1, 4, 1).tells(3, 0, 1, 1, 0, 0, 0);
    }

    private static void periodIsTheLeast() {
        String sentence = "Terms: the PERIOD: the least p above 0 by which it COMES ROUND from anywhere on";
        // 1, if all or none is in it from anywhere on
        run(sentence).then("put", 0, 0, 100, 0).is(1, "told", 0, 1).then("turn", 0, 0).is(1, "told", 0, 1);
        run(sentence).then("put", 0, 2, 0, 60).then("put", 1, 1, 100, 0).then("join", 2, 0, 1, 0).tells(2, 100, 1)
            .then("join", 2, 0, 1, 2).tells(2, 61, 1).is(2, "told", 2, 4);
        // less than that of both of which it is made: 0, 20 and 40 by 60 are 0 by 20
        run(sentence).then("put", 0, 2, 0, 60).then("put", 1, 2, 20, 60).then("put", 2, 2, 40, 60)
            .then("join", 0, 0, 1, 0)
            .tells(0, 0, 60).then("join", 0, 0, 2, 0).tells(0, 0, 20).then("put", 1, 2, 10, 20).then("join", 0, 0, 1, 0)
            .tells(0, 0, 10);
        // 0 by 30, and 15 by 30 but for 15 itself: what is ahead of START is no matter
        run(sentence).then("put", 0, 2, 0, 30).then("put", 1, 2, 15, 30).then("shift", 1, 1, 30)
            .then("join", 0, 0, 1, 0)
            .tells(0, 16, 15).is(1, "told", 0, 4).is(1, "told", 0, 5);
        // 59 has no divisors, and 60 has many: by one NUMBER less in each, neither comes round sooner
        for (int m : new int[] {59, 60}) {
            run(sentence).then("put", 0, 2, m - 1, m).tells(0, 0, m).then("turn", 0, 0).tells(0, 0, m)
                .is(m - 1, "told", 0, 5);
        }
    }

    private static void startIsTheLeast() {
        String sentence = "Terms: its START: the least t from which on it COMES ROUND by its PERIOD";
        // one less than START is not as one PERIOD later; all from START on are
        starts(sentence, n -> n % 5 == 2, 0, 5);
        starts(sentence, n -> n % 5 == 2 && n != 2, 3, 5);
        starts(sentence, n -> n % 5 == 2 || n == 0, 1, 5);
        starts(sentence, n -> n % 5 == 2 || n == 5, 6, 5);
        starts(sentence, n -> n % 5 == 2 && n != 97, 98, 5);
        starts(sentence, n -> n % 5 == 2 || n == 100, 101, 5);
        // moved up it begins ahead of its first NUMBER, as far as nothing is missed
        run(sentence).then("put", 0, 2, 0, 2).then("shift", 1, 0, 1).tells(1, 0, 2).then("shift", 1, 0, 2)
            .tells(1, 1, 2)
            .then("shift", 1, 0, 3).tells(1, 2, 2).then("shift", 1, 1, -2).tells(1, 0, 2);
        // what was missed is put in again, and START goes down all the way
        run(sentence).then("put", 0, 2, 1, 2).then("shift", 0, 0, 100).tells(0, 100, 2).then("put", 1, 2, 1, 2)
            .then("join", 2, 1, 0, 2).tells(2, 100, 1).then("join", 2, 2, 0, 0).tells(2, 0, 2).is(1, "alike", 1, 2, 0);
        run(sentence).then("put", 0, 1, 100, 0).then("turn", 1, 0).tells(1, 100, 1).then("join", 1, 0, 1, 0)
            .tells(1, 0, 1);
    }

    /** A SET of 2 by 5 in which one NUMBER up to 100 is turned about. */
    private static void starts(String sentence, IntPredicate so, int start, int period) {
        Run run = run(sentence).then("put", 0, 2, 2, 5);
        for (int n = 0; n <= 100; n++) {
            if (so.test(n) != (n % 5 == 2)) {
                run.then("put", 1, 0, n, 0).then("join", 0, 0, 1, 3);
            }
        }
        run.tells(0, start, period).holds(0, n -> so.test((int) n));
    }

    private static void startAndPeriodOfNoneAndAll() {
        for (int base : BASES) {
            Run run = run("Terms: START and PERIOD of the SETS of no NUMBER and of all").then("base", base);
            run.tells(0, 0, 1, 1, 0, 0, 0).then("put", 0, 4, 0, 0).tells(0, 0, 1, 1, 1, 0, 1);
            run.then("put", 1, 2, 0, 60).then("turn", 2, 1).then("join", 3, 1, 2, 0).tells(3, 0, 1, 1, 1, 0, 1);
            run.then("join", 3, 1, 2, 1).tells(3, 0, 1, 1, 0, 0, 0).then("put", 1, 0, 100, 0).then("turn", 2, 1);
            run.then("join", 3, 1, 2, 0).tells(3, 0, 1, 1, 1, 0, 1).then("join", 3, 1, 2, 1).tells(3, 0, 1, 1, 0, 0, 0);
        }
    }

    private static void figuresOfANumber() {
        String sentence = "Terms: FIGURES are 0 to BASE less 1, the lowest first";
        for (int base : BASES) {
            // d by BASE: FIGURE d alone goes to all, the others to none
            for (int d = 0; d < base; d++) {
                Run run = run(sentence).then("base", base).is(3, "put", 0, 2, d, base);
                for (int figure = 0; figure < base; figure++) {
                    int to = d == 0 ? (figure == 0 ? 1 : 2) : figure == d ? 2 : 1;
                    run.is(to, "state", 0, 0, figure).is(to, "walk", 0, figure, 1)
                        .is(to, "walk", 0, base * 7 + figure, 1);
                }
            }
            // a NUMBER that is BASE less 1, and one more
            run(sentence).then("base", base).is(3, "put", 0, 0, base - 1, 0).is(4, "put", 0, 0, base, 0)
                .is(4, "put", 0, 0, base * base - 1, 0).is(5, "put", 0, 0, base * base, 0);
        }
    }

    /** SETS of one STATE, of few and of 64: each REST is the STATE that it is, numbered as it is first met. */
    private static void restsAndTheirNumbers() {
        machine(2, n -> false, 1, 1, new Call("put", 0, 3, 0, 0));
        machine(5, n -> true, 1, 1, new Call("put", 0, 4, 0, 0));
        machine(3, n -> n == 0, 1, 2, new Call("put", 0, 0, 0, 0));
        machine(2, n -> n % 60 == 59, 60, 18, new Call("put", 0, 2, 59, 60));
        machine(3, n -> n % 60 == 3, 60, 22, new Call("put", 0, 2, 3, 60));
        machine(2, n -> n >= 78 && n % 53 == 24, 53, 64, new Call("put", 0, 2, 52, 53), new Call("shift", 0, 0, 78));
        machine(3, n -> n % 55 == 0 || n == 30, 55, 64,
            new Call("put", 0, 2, 0, 55), new Call("put", 1, 0, 30, 0), new Call("join", 0, 0, 1, 0));
        machine(5, n -> n % 41 == 0 || n == 25, 41, 64,
            new Call("put", 0, 2, 0, 41), new Call("put", 1, 0, 25, 0), new Call("join", 0, 0, 1, 0));
        machine(5, n -> n >= 120, 1, 6, new Call("put", 0, 1, 100, 0), new Call("shift", 0, 0, 20));
    }

    /** What the calls put into SLOT 0 is compared with what Known finds, REST by REST. */
    private static void machine(int base, IntPredicate so, int period, int states, Call... calls) {
        String sentence = "Terms: RESTS, and STATES numbered as they are first met";
        Known set = Known.of(so, 130, period);
        due.is(sentence + ": STATES are found", set.trace(base, 64) ? 1 : 0, 1);
        NumberMachines x = new NumberMachines();
        x.base(base);
        for (Call call : calls) {
            call.on(x);
        }
        due.is(sentence + ": how many", x.told(0, 2), states);
        int met = 1;
        for (int i = 0; i < states; i++) {
            for (int figure = 0; figure < base; figure++) {
                int to = x.state(0, i, figure);
                due.is("[" + sentence + "] state(0, " + i + ", " + figure + ")", to, set.goes.get(i)[figure]);
                due.is("[" + sentence + "] " + to + " comes behind those met", to <= met ? 1 : 0, 1);
                met = Math.max(met, to + 1);
            }
            due.is("[" + sentence + "] state(0, " + i + ", 5)", x.state(0, i, 5), set.good.get(i) ? 1 : 0);
        }
        due.is("[" + sentence + "] all are met", met, states);
    }

    private static void goodIf0IsInIt() {
        String sentence = "Terms: a STATE is GOOD, if 0 is in it";
        for (int base : BASES) {
            Run run = run(sentence).then("base", base).is(0, "state", 0, 0, 5).is(0, "told", 0, 3);
            run.then("put", 0, 0, 0, 0).is(1, "state", 0, 0, 5).is(0, "state", 0, 1, 5).is(1, "told", 0, 3);
            run.then("turn", 0, 0).is(0, "state", 0, 0, 5).is(1, "state", 0, 1, 5).is(1, "told", 0, 3);
            run.then("put", 0, 2, 59, 60).is(0, "state", 0, 0, 5).then("put", 0, 2, 60, 60).is(1, "state", 0, 0, 5);
            run.then("put", 0, 1, 100, 0).is(0, "state", 0, 0, 5).then("turn", 0, 0).is(1, "state", 0, 0, 5);
        }
    }

    /** The document's limit of 512 calls: the last of them is answered as the first one, whichever it is. */
    private static void theLastOf512Calls() {
        String sentence = "What it is: an object is used for at most 512 calls";
        for (int base : BASES) {
            Run run = run(sentence).then("base", base);
            for (int call = 2; call <= 507; call++) {
                run.then("put", call % 6, 2, call % 59, 59);
            }
            run.is(59, "told", 0, 2).then("image", 0).then("base", 2).is(1, "restore", 0).is(59, "turn", 0, 0);
        }
        Run run = run(sentence);
        for (int call = 1; call <= 510; call++) {
            run.then("image", call % 2);
        }
        run.is(3, "count", 4).is(9, "put", 0, 0, 100, 0);
    }
}
