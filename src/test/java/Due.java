import java.util.function.LongPredicate;

/** Compares answers with those that are due, prints each that is not, and ends with exit code 1 if there was one. */
final class Due {
    private int wrong = 0;
    private int asked = 0;

    void is(String call, long got, long want) {
        asked++;
        if (got != want) {
            wrong++;
            if (wrong <= 40) {
                System.out.println(call + " answered " + got + ", due is " + want);
            }
        }
    }

    /** The SLOT holds just the NUMBERS of which it is so: small ones are all asked for, and some of the largest. */
    void holds(Renewed x, int slot, String what, LongPredicate so) {
        for (int n = 0; n <= 700; n++) {
            is(what + ": has(" + slot + ", " + n + ")", x.has(slot, n), so.test(n) ? 1 : 0);
        }
        for (int n = 999999800; n <= 1000000000; n++) {
            is(what + ": has(" + slot + ", " + n + ")", x.has(slot, n), so.test(n) ? 1 : 0);
        }
    }

    int wrong() {
        return wrong;
    }

    void end() {
        System.out.println(wrong == 0 ? asked + " answers are as due" : wrong + " of " + asked + " answers are not as due");
        if (wrong != 0) {
            System.exit(1);
        }
    }
}
