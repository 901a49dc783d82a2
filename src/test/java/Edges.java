/** Tries what is refused whatever is held: on an object as new, and on two that hold and keep much. */
final class Edges {
    private final Due due;

    Edges(Due due) {
        this.due = due;
    }

    /** A number of a call is as told from least to most: the call is taken there, and refused beside and far away. */
    void range(String sentence, Call call, int place, int least, int most, int refusal) {
        for (Run run : scenes(sentence)) {
            run.takes(call.with(place, least));
            run.takes(call.with(place, most));
        }
        int[] wrong = {least - 1, most + 1, Integer.MIN_VALUE, Integer.MAX_VALUE};
        for (int number : wrong) {
            refused(sentence, refusal, call.with(place, number));
        }
    }

    /** The numbers at these places of a call are SLOTS: 0 to 5. */
    void slots(String sentence, Call call, int... places) {
        for (int place : places) {
            range(sentence, call, place, 0, 5, NumberMachines.UNKNOWN);
        }
    }

    void refused(String sentence, int refusal, Call... calls) {
        for (Run run : scenes(sentence)) {
            for (Call call : calls) {
                run.refuses(refusal, call);
            }
        }
    }

    void taken(String sentence, Call... calls) {
        for (Run run : scenes(sentence)) {
            for (Call call : calls) {
                run.takes(call);
            }
        }
    }

    private Run[] scenes(String sentence) {
        Run one = new Run(due, sentence).then("base", 5).then("put", 1, 2, 3, 5).then("image", 0);
        Run both = new Run(due, sentence).then("put", 3, 0, 6, 0).then("image", 1).then("base", 3).then("image", 0);
        return new Run[] {new Run(due, sentence), crowded(one, 3), crowded(both, 5)};
    }

    /** SETS of all kinds: 1, 3 and 5 have a START, 0, 1 and 3 a PERIOD; 2 is that of all, 4 that of no NUMBER. */
    private static Run crowded(Run run, int base) {
        run.then("base", base);
        run.then("put", 0, 2, 7, 12);
        run.then("put", 1, 0, 20, 0).then("join", 1, 0, 1, 3);
        run.then("put", 2, 4, 0, 0);
        run.then("put", 3, 2, 1, 2).then("shift", 3, 3, 3);
        run.then("put", 5, 0, 4, 0);
        return run;
    }
}
