import java.math.BigInteger;
import java.util.ArrayList;
import java.util.Arrays;
import java.util.HashMap;
import java.util.HashSet;
import java.util.List;
import java.util.Map;
import java.util.Set;
import java.util.function.IntPredicate;

/** A SET written out, LARGE or not: its START and PERIOD, its NUMBERS below both, added, and its machine. */
final class Known {
    final int start;
    final int period;
    final boolean[] in;
    /** For each STATE, which one each REST is. */
    final List<int[]> goes = new ArrayList<>();
    final List<Boolean> good = new ArrayList<>();

    private Known(int start, int period, boolean[] in) {
        this.start = start;
        this.period = period;
        this.in = in;
    }

    /** A SET told by which NUMBERS are in it, a place from which on and a number by which it comes round. */
    static Known of(IntPredicate so, int from, int by) {
        boolean[] in = new boolean[from + 2 * by + 1];
        for (int n = 0; n < in.length; n++) {
            in[n] = so.test(n);
        }
        int period = 1;
        while (!comesRound(in, from, period, by)) {
            period++;
        }
        int start = from;
        while (start > 0 && in[start - 1] == in[start - 1 + period]) {
            start--;
        }
        return new Known(start, period, Arrays.copyOf(in, start + period));
    }

    private static boolean comesRound(boolean[] in, int from, int period, int by) {
        for (int n = from; n < from + by; n++) {
            if (in[n] != in[n + period]) {
                return false;
            }
        }
        return true;
    }

    boolean holds(long n) {
        return in[(int) (n < in.length ? n : start + (n - start) % period)];
    }

    private boolean holds(BigInteger n) {
        BigInteger from = BigInteger.valueOf(start);
        if (n.compareTo(BigInteger.valueOf(in.length)) < 0) {
            return in[n.intValue()];
        }
        return in[start + n.subtract(from).mod(BigInteger.valueOf(period)).intValue()];
    }

    /**
     * Finds the STATES; false if there are more than most. They are told as all u for which times u, and more, added,
     * is in the SET; each is written out to be known.
     */
    boolean trace(int base, int most) {
        List<BigInteger[]> met = new ArrayList<>();
        Map<String, Integer> numbers = new HashMap<>();
        met.add(new BigInteger[] {BigInteger.ONE, BigInteger.ZERO});
        numbers.put(written(met.get(0)), 0);
        for (int i = 0; i < met.size(); i++) {
            BigInteger times = met.get(i)[0];
            BigInteger more = met.get(i)[1];
            good.add(holds(more));
            int[] row = new int[base];
            for (int figure = 0; figure < base; figure++) {
                BigInteger[] rest = {times.multiply(BigInteger.valueOf(base)),
                    times.multiply(BigInteger.valueOf(figure)).add(more)};
                String text = written(rest);
                if (!numbers.containsKey(text)) {
                    numbers.put(text, met.size());
                    met.add(rest);
                }
                row[figure] = numbers.get(text);
            }
            goes.add(row);
            if (met.size() > most) {
                return false;
            }
        }
        return true;
    }

    /** The least number of steps from a STATE to one of which it is so; NONE: there is no way. */
    int steps(int from, IntPredicate there) {
        List<Integer> front = new ArrayList<>(List.of(from));
        Set<Integer> been = new HashSet<>(front);
        for (int steps = 0; !front.isEmpty(); steps++) {
            List<Integer> then = new ArrayList<>();
            for (int one : front) {
                if (there.test(one)) {
                    return steps;
                }
                for (int go : goes.get(one)) {
                    if (been.add(go)) {
                        then.add(go);
                    }
                }
            }
            front = then;
        }
        return NumberMachines.NONE;
    }

    private String written(BigInteger[] state) {
        StringBuilder text = new StringBuilder();
        BigInteger n = state[1];
        for (int u = 0; u <= start + period; u++) {
            text.append(holds(n) ? '1' : '0');
            n = n.add(state[0]);
        }
        return text.toString();
    }
}
