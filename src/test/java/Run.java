import java.util.ArrayList;
import java.util.List;
import java.util.function.LongPredicate;

/**
 * A run of calls that tests one sentence of the document. No object gets more calls than the document allows: what
 * asks for many (is all as it was, is just this in a SLOT) is asked of new objects on which the run is made again.
 */
final class Run {
    private static final int MOST_CALLS = 512;
    private static final int NO_NUMBER_FROM = 1000000001;
    /** So many calls from either end of a run are told when an answer is not as due. */
    private static final int MOST_TOLD = 8;

    private final Due due;
    private final String sentence;
    private final List<Call> calls = new ArrayList<>();
    private final NumberMachines x = new NumberMachines();
    private List<List<Call>> questions;
    private List<Integer> answers;

    Run(Due due, String sentence) {
        this.due = due;
        this.sentence = sentence;
    }

    /** The answer to the next call of the run is as wanted. */
    Run is(int want, String name, int... numbers) {
        Call call = new Call(name, numbers);
        compare(call, call.on(x), want);
        return made(call);
    }

    /** The next call of the run, whose answer is no matter here, as long as it is not refused. */
    Run then(String name, int... numbers) {
        Call call = new Call(name, numbers);
        taken(call, call.on(x));
        return made(call);
    }

    /** The answers to told, what = 0, 1, .., are as wanted. */
    Run tells(int slot, int... want) {
        for (int what = 0; what < want.length; what++) {
            is(want[what], "told", slot, what);
        }
        return this;
    }

    private Run made(Call call) {
        calls.add(call);
        look(calls.size());
        questions = null;
        return this;
    }

    /** A test that makes too many calls asks for what the document leaves free: it is the test that is wrong. */
    private void look(int made) {
        if (made > MOST_CALLS) {
            throw new IllegalStateException(sentence + ": more than " + MOST_CALLS + " calls");
        }
    }

    private void compare(Call call, int got, int want) {
        due.is(behind() + call, got, want);
    }

    /** Where nothing can be told, NONE is no refusal. */
    private void taken(Call call, int answer) {
        boolean taken = answer >= 0 || answer == NumberMachines.NONE;
        due.is(behind() + call + " answered " + answer + "; taken", taken ? 1 : 0, 1);
    }

    private String behind() {
        StringBuilder text = new StringBuilder("[").append(sentence).append("] ");
        for (int k = 0; k < calls.size(); k++) {
            if (k < MOST_TOLD || k >= calls.size() - MOST_TOLD) {
                text.append(calls.get(k)).append("; ");
            } else if (k == MOST_TOLD) {
                text.append(".. ").append(calls.size() - 2 * MOST_TOLD).append(" calls more ..; ");
            }
        }
        return text.append("behind these ").toString();
    }

    /** The call is refused with what is wanted, and all that can be asked is answered as it was before. */
    Run refuses(int want, String name, int... numbers) {
        return refuses(want, new Call(name, numbers));
    }

    Run refuses(int want, Call call) {
        if (questions == null) {
            questions = questions();
            answers = answers(null);
        }
        compare(call, call.on(again()), want);
        List<Integer> then = answers(call);
        int changed = 0;
        for (int k = 0; k < answers.size(); k++) {
            changed += answers.get(k).equals(then.get(k)) ? 0 : 1;
        }
        due.is(behind() + call + ": how many answers are others then", changed, 0);
        return this;
    }

    /** The call, if it came next, would not be refused. */
    Run takes(Call call) {
        taken(call, call.on(again()));
        return this;
    }

    /** The SLOT holds just the NUMBERS of which it is so: all up to beyond START and PERIOD, and the largest ones. */
    Run holds(int slot, LongPredicate so) {
        has(slot, 0, 250, so);
        has(slot, NO_NUMBER_FROM - 130, NO_NUMBER_FROM, so);
        return this;
    }

    private void has(int slot, int from, int end, LongPredicate so) {
        look(calls.size() + end - from);
        NumberMachines other = again();
        for (int n = from; n < end; n++) {
            Call call = new Call("has", slot, n);
            compare(call, call.on(other), so.test(n) ? 1 : 0);
        }
    }

    private NumberMachines again() {
        NumberMachines other = new NumberMachines();
        for (Call call : calls) {
            call.on(other);
        }
        return other;
    }

    /** What tells an object whole: its SLOTS as they stand, and as each IMAGE that is kept gives them back. */
    private List<List<Call>> questions() {
        List<List<Call>> all = new ArrayList<>();
        addQuestions(all, again(), List.of());
        for (int k = 0; k < 2; k++) {
            NumberMachines other = again();
            Call restore = new Call("restore", k);
            if (restore.on(other) == 1) {
                addQuestions(all, other, List.of(restore));
            }
        }
        return all;
    }

    private void addQuestions(List<List<Call>> all, NumberMachines other, List<Call> ahead) {
        List<Call> some = new ArrayList<>(ahead);
        for (Call question : questionsOf(other)) {
            if (calls.size() + 1 + some.size() == MOST_CALLS) {
                all.add(some);
                some = new ArrayList<>(ahead);
            }
            some.add(question);
        }
        all.add(some);
    }

    private static List<Call> questionsOf(NumberMachines other) {
        List<Call> some = new ArrayList<>();
        for (int what = 0; what < 5; what++) {
            some.add(new Call("count", what));
        }
        for (int slot = 0; slot < 6; slot++) {
            int places = other.told(slot, 0) + other.told(slot, 1);
            int states = other.told(slot, 2);
            for (int what = 0; what < 6; what++) {
                some.add(new Call("told", slot, what));
            }
            for (int n = 0; n < places; n++) {
                some.add(new Call("has", slot, n));
            }
            for (int i = 0; i <= states; i++) {
                for (int what = 0; what < 6; what++) {
                    some.add(new Call("state", slot, i, what));
                }
            }
        }
        return some;
    }

    private List<Integer> answers(Call ahead) {
        List<Integer> all = new ArrayList<>();
        for (List<Call> some : questions) {
            NumberMachines other = again();
            if (ahead != null) {
                ahead.on(other);
            }
            look(calls.size() + 1 + some.size());
            for (Call question : some) {
                all.add(question.on(other));
            }
        }
        return all;
    }
}
