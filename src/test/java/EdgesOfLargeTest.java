import java.util.function.IntPredicate;

/**
 * "A SET is LARGE, if its PERIOD is greater than 60, or its START greater than 120, or it has more than 64 STATES": for
 * each call that can be FULL, a SET that is just not LARGE, and one that just is, by one of the three alone. How long
 * a SET is, and how many STATES it has, is measured apart from the class, by Known.
 */
public final class EdgesOfLargeTest {
    private static final int FULL = NumberMachines.FULL;
    private static final int MOST_PERIOD = 60, MOST_START = 120, MOST_STATES = 64;
    private static final int FAR = 400;

    private static final Due due = new Due();

    public static void main(String[] args) {
        periodByJoin();
        periodByStretch();
        periodOfWhatIsMadeAlone();
        startByShift();
        startByStretch();
        startByTheOtherCalls();
        statesByJoin();
        statesByShiftUp();
        statesByShiftDown();
        statesByStretch();
        statesByShrink();
        statesGoByBase();
        byMoreThanOneAtOnce();
        due.end();
    }

    private static Run run(String promise, int base) {
        return new Run(due, promise + ": LARGE").then("base", base).then("image", 1);
    }

    /** The last call of a run makes a SET of just this START, PERIOD and number of STATES: FULL if one is too great. */
    private static void made(Run run, int base, IntPredicate so, int[] sizes, String name, int... numbers) {
        Known set = Known.of(so, FAR, sizes[1]);
        due.is(name + ": measured: STATES are found", set.trace(base, 1000) ? 1 : 0, 1);
        due.is(name + ": measured: START", set.start, sizes[0]);
        due.is(name + ": measured: PERIOD", set.period, sizes[1]);
        due.is(name + ": measured: STATES", set.goes.size(), sizes[2]);
        if (sizes[0] > MOST_START || sizes[1] > MOST_PERIOD || sizes[2] > MOST_STATES) {
            run.refuses(FULL, name, numbers);
        } else {
            run.is(sizes[2], name, numbers).tells(numbers[0], sizes).holds(numbers[0], n -> set.holds(n));
        }
    }

    private static int[] sizes(int start, int period, int states) {
        return new int[] {start, period, states};
    }

    // ---- PERIOD: 61 cannot come about, as a PERIOD is made of those up to 60, and 61 is of no others

    private static void periodByJoin() {
        // by 4 and by 15 are by 60, by 2 and by 31 are by 62; by 7 and by 9 are by 63, by 5 and by 13 are by 65
        bothBy(2, 4, 15, 18);
        bothBy(2, 2, 31, 33);
        bothBy(2, 2, 29, 31);
        bothBy(3, 4, 15, 22);
        bothBy(3, 7, 9, 10);
        bothBy(5, 12, 5, 14);
        bothBy(5, 5, 13, 15);
        bothBy(5, 5, 11, 13);
    }

    private static void bothBy(int base, int one, int other, int states) {
        Run run = run("promise 4", base).then("put", 0, 2, 0, one).then("put", 1, 2, 0, other).then("put", 2, 0, 1, 0);
        made(run, base, n -> n % one == 0 && n % other == 0, sizes(0, one * other, states), "join", 2, 0, 1, 1);
    }

    private static void periodByStretch() {
        timesBy(2, 30, 2, 18);
        timesBy(2, 31, 2, 33);
        timesBy(2, 5, 12, 18);
        timesBy(2, 8, 8, 8);
        timesBy(3, 20, 3, 22);
        timesBy(3, 7, 9, 10);
        timesBy(5, 12, 5, 14);
        timesBy(5, 13, 5, 15);
    }

    private static void timesBy(int base, int m, int c, int states) {
        Run run = run("promise 7", base).then("put", 0, 2, 0, m).then("put", 1, 0, 1, 0);
        made(run, base, n -> n % (m * c) == 0, sizes(0, m * c, states), "stretch", 1, 0, c, 0);
    }

    /** It is the PERIOD of what is made that counts, not of what it is made of. */
    private static void periodOfWhatIsMadeAlone() {
        Run run = run("promise 4", 2).then("put", 0, 2, 0, 60).then("put", 1, 2, 1, 58).is(FULL, "join", 2, 0, 1, 0);
        made(run, 2, n -> false, sizes(0, 1, 1), "join", 2, 0, 1, 1);
        made(run, 2, n -> n % 60 == 0, sizes(0, 60, 18), "join", 2, 0, 1, 2);
        run.then("put", 3, 4, 0, 0).then("put", 0, 2, 7, 60).then("put", 1, 2, 3, 59).is(FULL, "join", 2, 0, 1, 3);
        made(run, 2, n -> n % 60 == 7, sizes(0, 60, 18), "join", 2, 0, 3, 1);
        // the SET of no NUMBER comes round by 1 whatever it is stretched by
        run.then("put", 4, 3, 0, 0);
        made(run, 2, n -> false, sizes(0, 1, 1), "stretch", 4, 4, 12, 20);
        // one NUMBER, too: 12 times 8, and 20, is 116
        run.then("put", 4, 0, 8, 0);
        made(run, 2, n -> n == 116, sizes(117, 1, 9), "stretch", 4, 4, 12, 20);
    }

    // ---- START

    private static void startByShift() {
        noLess(2, 20, 11);
        noLess(2, 21, 14);
        noLess(3, 20, 9);
        noLess(3, 21, 10);
        noLess(5, 20, 6);
        noLess(5, 21, 7);
        alone(2, 19, 9);
        alone(2, 20, 9);
        alone(3, 19, 7);
        alone(3, 20, 7);
        alone(5, 19, 5);
        alone(5, 20, 5);
        // 0 by 60, moved by 100, misses 40: its START is 41
        Run run = run("promise 6", 2).then("put", 0, 2, 0, 60).then("shift", 0, 0, 100).tells(0, 41, 60);
        made(run, 2, n -> n >= 179 && n % 60 == 59, sizes(120, 60, 24), "shift", 1, 0, 79);
        made(run, 2, n -> n >= 180 && n % 60 == 0, sizes(121, 60, 24), "shift", 1, 0, 80);
    }

    private static void noLess(int base, int c, int states) {
        Run run = run("promise 6", base).then("put", 0, 1, 100, 0);
        made(run, base, n -> n >= 100 + c, sizes(100 + c, 1, states), "shift", 0, 0, c);
    }

    private static void alone(int base, int c, int states) {
        Run run = run("promise 6", base).then("put", 0, 0, 100, 0);
        made(run, base, n -> n == 100 + c, sizes(101 + c, 1, states), "shift", 1, 0, c);
    }

    private static void startByStretch() {
        // 119 alone and 120 alone
        Run run = run("promise 7", 2).then("put", 0, 0, 11, 0).then("put", 1, 0, 10, 0);
        made(run, 2, n -> n == 119, sizes(120, 1, 9), "stretch", 2, 0, 9, 20);
        made(run, 2, n -> n == 120, sizes(121, 1, 9), "stretch", 2, 1, 12, 0);
        made(run, 2, n -> n == 120, sizes(121, 1, 9), "stretch", 1, 1, 10, 20);
        // 12 times no less than 10: 108 is missed, so that START is 109, and d, added
        run = run("promise 7", 3).then("put", 0, 1, 10, 0);
        made(run, 3, n -> n >= 131 && n % 12 == 11, sizes(120, 12, 15), "stretch", 2, 0, 12, 11);
        made(run, 3, n -> n >= 132 && n % 12 == 0, sizes(121, 12, 15), "stretch", 0, 0, 12, 12);
    }

    /** These make no START that is greater: at the greatest, nothing is FULL. */
    private static void startByTheOtherCalls() {
        Run run = run("promises 4, 5, 8", 2).then("put", 0, 1, 100, 0).then("shift", 0, 0, 20);
        run.then("put", 1, 0, 100, 0).then("shift", 1, 1, 19);
        made(run, 2, n -> n >= 119, sizes(119, 1, 14), "join", 2, 0, 1, 0);
        made(run, 2, n -> n >= 119, sizes(119, 1, 14), "join", 2, 0, 1, 3);
        made(run, 2, n -> n >= 120, sizes(120, 1, 11), "join", 2, 0, 1, 2);
        made(run, 2, n -> n < 120, sizes(120, 1, 11), "turn", 2, 0);
        made(run, 2, n -> n >= 120, sizes(120, 1, 11), "shrink", 2, 0, 1, 0);
        made(run, 2, n -> n == 119, sizes(120, 1, 9), "stretch", 2, 1, 1, 0);
        made(run, 2, n -> n >= 120, sizes(120, 1, 11), "shift", 0, 0, 0);
    }

    // ---- STATES

    private static void statesByJoin() {
        withOneMore(2, 41, 4, 64);
        withOneMore(2, 41, 8, 65);
        withOneMore(3, 55, 30, 64);
        withOneMore(3, 55, 85, 65);
        withOneMore(5, 41, 25, 64);
        withOneMore(5, 56, 25, 65);
    }

    private static void withOneMore(int base, int m, int a, int states) {
        Run run = run("promise 4", base).then("put", 0, 2, 0, m).then("put", 1, 0, a, 0);
        made(run, base, n -> n % m == 0 || n == a, sizes(a + 1, m, states), "join", 0, 0, 1, 0);
        run = run("promise 4", base).then("put", 0, 2, 0, m).then("put", 1, 0, a, 0);
        made(run, base, n -> n % m == 0 || n == a, sizes(a + 1, m, states), "join", 5, 1, 0, 3);
    }

    private static void statesByShiftUp() {
        lastMovedBy(2, 53, 78, 64);
        lastMovedBy(2, 53, 97, 65);
        lastMovedBy(3, 56, 82, 64);
        lastMovedBy(3, 58, 68, 65);
        lastMovedBy(5, 58, 84, 64);
        lastMovedBy(5, 59, 85, 65);
    }

    private static void lastMovedBy(int base, int m, int c, int states) {
        Run run = run("promise 6", base).then("put", 0, 2, m - 1, m);
        made(run, base, n -> n >= c && (n - c) % m == m - 1, sizes(c, m, states), "shift", 0, 0, c);
    }

    private static void statesByShiftDown() {
        Run run = run("promise 6", 2).then("put", 0, 2, 54, 55).is(63, "shift", 0, 0, 72);
        made(run, 2, n -> n >= 71 && (n - 71) % 55 == 54, sizes(71, 55, 65), "shift", 0, 0, -1);
        run = run("promise 6", 2).then("put", 0, 2, 52, 53).is(64, "shift", 0, 0, 79);
        made(run, 2, n -> n >= 78 && (n - 78) % 53 == 52, sizes(78, 53, 64), "shift", 0, 0, -1);
        run = run("promise 6", 3).then("put", 0, 2, 57, 58).is(64, "shift", 0, 0, 77);
        made(run, 3, n -> n >= 76 && (n - 76) % 58 == 57, sizes(76, 58, 65), "shift", 1, 0, -1);
    }

    private static void statesByStretch() {
        Run run = run("promise 7", 2).then("put", 0, 2, 58, 59);
        made(run, 2, n -> n >= 9 && (n - 9) % 59 == 58, sizes(9, 59, 64), "stretch", 1, 0, 1, 9);
        made(run, 2, n -> n >= 17 && (n - 17) % 59 == 58, sizes(17, 59, 65), "stretch", 1, 0, 1, 17);
        made(run, 2, n -> n >= 17 && (n - 17) % 59 == 58, sizes(17, 59, 65), "stretch", 0, 0, 1, 17);
    }

    private static void statesByShrink() {
        Run run = run("promise 8", 2).then("put", 0, 2, 54, 55).is(63, "shift", 0, 0, 72);
        made(run, 2, n -> n >= 71 && (n - 71) % 55 == 54, sizes(71, 55, 65), "shrink", 0, 0, 1, 1);
        run = run("promise 8", 2).then("put", 0, 2, 52, 53).is(64, "shift", 0, 0, 79);
        made(run, 2, n -> n >= 78 && (n - 78) % 53 == 52, sizes(78, 53, 64), "shrink", 1, 0, 1, 1);
        run = run("promise 8", 3).then("put", 0, 2, 57, 58).is(64, "shift", 0, 0, 77);
        made(run, 3, n -> n >= 76 && (n - 76) % 58 == 57, sizes(76, 58, 65), "shrink", 5, 0, 1, 1);
    }

    /** The same SET is LARGE by one BASE and not by another. */
    private static void statesGoByBase() {
        lastMovedBy(2, 58, 97, 41);
        lastMovedBy(3, 58, 97, 66);
        lastMovedBy(5, 58, 97, 64);
    }

    private static void byMoreThanOneAtOnce() {
        // START 1321, PERIOD 720; PERIOD 3540; PERIOD 3540 and many STATES
        new Run(due, "promise 7: LARGE").then("put", 0, 2, 0, 60).then("put", 1, 1, 100, 0).then("shift", 1, 1, 20)
            .then("join", 1, 0, 1, 1).refuses(FULL, "stretch", 1, 1, 12, 20).refuses(FULL, "stretch", 0, 1, 12, 0);
        new Run(due, "promise 4: LARGE").then("put", 0, 2, 0, 60).then("put", 1, 2, 58, 59)
            .refuses(FULL, "join", 0, 0, 1, 0)
            .refuses(FULL, "join", 1, 0, 1, 1).refuses(FULL, "join", 2, 0, 1, 2).refuses(FULL, "join", 3, 0, 1, 3);
    }
}
