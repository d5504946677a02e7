import java.util.List;

/** A call at an edge that a sentence of the document names. */
final class Edge {
    static final int MIN = Integer.MIN_VALUE;
    static final int MAX = Integer.MAX_VALUE;
    static final int[] CHAINS_NOT_GOOD = {-1, 3, 4, MIN, MAX};
    static final int[] PARAMETERS_NOT_GOOD = {-1, 4, 5, MIN, MAX};

    private Edge() {
    }

    static int[] nodesNotGood(State state) {
        return new int[] {-1, state.nodes, state.nodes + 1, 24, MIN, MAX};
    }

    static void answers(String sentence, State state, int due, String name, int... args) {
        Call call = new Call(name, args);
        Due.is(sentence + " | " + state + ": " + call, call.on(state.make()), due);
    }

    static void answersAndChangesNothing(String sentence, State state, int due, String name, int... args) {
        answers(sentence, state, due, name, args);
        changeNothing(sentence, state, List.of(new Call(name, args)));
    }

    /** All later calls answer as they do on a twin without these calls. */
    static void changeNothing(String sentence, State state, List<Call> calls) {
        for (List<Call> run : Later.RUNS) {
            TapeSampler with = state.make();
            TapeSampler without = state.make();
            for (Call call : calls) {
                call.on(with);
            }
            for (Call later : run) {
                String text = sentence + " | " + state + ": " + later + " after " + calls;
                Due.is(text, later.on(with), later.on(without));
            }
        }
        int spent = state.calls().size() + calls.size() + Later.LONGEST;
        Due.holds("at most 512 calls: " + spent, spent <= 512);
    }
}
