/** A call at an edge that a sentence of the document names. */
final class Edge {
    static final int MIN = Integer.MIN_VALUE;
    static final int MAX = Integer.MAX_VALUE;
    static final int[] CHAINS_NOT_GOOD = {-1, 3, 4, MIN, MAX};
    static final int[] PARAMETERS_NOT_GOOD = {-1, 4, 5, MIN, MAX};

    private Edge() {
    }

    static int[] nodesNotGood(State state) {
        return new int[] {-1, state.nodes, state.nodes + 1, 24, MIN, MAX};
    }

    static void answers(String sentence, State state, int due, String name, int... args) {
        Call call = new Call(name, args);
        Due.is(sentence + " | " + state + ": " + call, call.on(state.make()), due);
    }

    /** The same, and all later calls answer as they do on a twin without the call. */
    static void answersAndChangesNothing(String sentence, State state, int due, String name, int... args) {
        Call call = new Call(name, args);
        TapeSampler with = state.make();
        TapeSampler without = state.make();
        Due.is(sentence + " | " + state + ": " + call, call.on(with), due);
        sameLater(sentence + " | " + state + ": " + call + " then ", with, without);
    }

    static void sameLater(String before, TapeSampler with, TapeSampler without) {
        for (Call later : Later.CALLS) {
            Due.is(before + later, later.on(with), later.on(without));
        }
    }
}
