import java.util.ArrayList;
import java.util.List;

/**
 * An object of the class that never gets more calls than the document allows: ahead of one too many, a new object takes
 * its place, and is put all calls again that could have changed something (refused ones too: they should not have).
 */
final class Renewed {
    private static final int MOST_CALLS = 512;

    private final List<Call> changes = new ArrayList<>();
    private NumberMachines x = new NumberMachines();
    private int calls = 0;

    int base(int n) {
        return change("base", n);
    }

    int put(int to, int kind, int a, int m) {
        return change("put", to, kind, a, m);
    }

    int join(int to, int one, int other, int way) {
        return change("join", to, one, other, way);
    }

    int turn(int to, int from) {
        return change("turn", to, from);
    }

    int shift(int to, int from, int c) {
        return change("shift", to, from, c);
    }

    int stretch(int to, int from, int c, int d) {
        return change("stretch", to, from, c, d);
    }

    int shrink(int to, int from, int c, int d) {
        return change("shrink", to, from, c, d);
    }

    int told(int slot, int what) {
        return ask("told", slot, what);
    }

    int state(int slot, int i, int what) {
        return ask("state", slot, i, what);
    }

    int walk(int slot, int number, int n) {
        return ask("walk", slot, number, n);
    }

    int has(int slot, int number) {
        return ask("has", slot, number);
    }

    int next(int slot, int number) {
        return ask("next", slot, number);
    }

    int below(int slot, int number) {
        return ask("below", slot, number);
    }

    int alike(int one, int other, int what) {
        return ask("alike", one, other, what);
    }

    int image(int k) {
        return change("image", k);
    }

    int restore(int k) {
        return change("restore", k);
    }

    int count(int what) {
        return ask("count", what);
    }

    private int change(String name, int... numbers) {
        int answer = ask(name, numbers);
        changes.add(new Call(name, numbers));
        return answer;
    }

    private int ask(String name, int... numbers) {
        if (calls == MOST_CALLS) {
            renew();
        }
        calls++;
        return new Call(name, numbers).on(x);
    }

    /** With so many changes that no call is left, it is the test that is wrong: it asks for what is left free. */
    private void renew() {
        if (changes.size() >= MOST_CALLS) {
            throw new IllegalStateException(MOST_CALLS + " calls that may change something");
        }
        x = new NumberMachines();
        for (Call call : changes) {
            call.on(x);
        }
        calls = changes.size();
    }
}
