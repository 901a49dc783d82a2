import java.lang.management.ManagementFactory;

/** All calls of a run live in one room and nothing in it is used again: so a run of the dearest calls is measured. */
public final class RoomTest {
    /** The room is 7.3 million fields and elements; a run of 512 calls may take a small part of it. */
    private static final long MOST_BYTES = 4000000L;

    private static final Due due = new Due();

    public static void main(String[] args) {
        manyStates(new NumberMachines());
        long before = made();
        manyStates(new NumberMachines());
        small("512 calls that hold SETS of many STATES", made() - before);
        before = made();
        for (int k = 0; k < 512; k++) {
            new NumberMachines().count(0);
        }
        small("512 new objects", made() - before);
        NumberMachines x = new NumberMachines();
        hold(x);
        before = made();
        ask(x);
        due.is("calls that only tell make nothing", made() - before < 1000 ? 1 : 0, 1);
        due.end();
    }

    private static void manyStates(NumberMachines x) {
        x.base(5);
        for (int call = 0; call < 511; call++) {
            x.put(call % 6, 2, call % 59, 59);
        }
    }

    private static void hold(NumberMachines x) {
        x.put(0, 2, 58, 59);
        x.put(1, 2, 59, 60);
        x.put(2, 2, 0, 57);
        x.image(0);
        ask(x);
    }

    private static void ask(NumberMachines x) {
        for (int what = -1; what < 9; what++) {
            x.told(0, what);
            x.state(0, 40, what);
            x.alike(0, 1, what);
            x.count(what);
            x.join(3, 0, 1, what);
        }
        x.walk(0, 12345678, 40);
        x.has(0, 1000000000);
        x.next(0, 1000000000);
        x.below(0, 1000000000);
        x.image(0);
        x.restore(0);
    }

    private static void small(String what, long bytes) {
        System.out.println(what + ": " + bytes + " bytes");
        due.is(what + " stay below " + MOST_BYTES + " bytes", bytes < MOST_BYTES ? 1 : 0, 1);
    }

    private static long made() {
        com.sun.management.ThreadMXBean threads = (com.sun.management.ThreadMXBean) ManagementFactory.getThreadMXBean();
        return threads.getCurrentThreadAllocatedBytes();
    }
}
