import java.util.ArrayList;
import java.util.List;

/** The sentences of the section "Terms" about all methods, and the 512 calls that an object is good for. */
public final class TermsTest {
    private static final int MIN = Edge.MIN;
    private static final int MAX = Edge.MAX;
    private static final String ORDER = "In every method the tests are made in the order named";
    private static final int[] KINDS_NOT_GOOD = {-1, 3, MIN, MAX};
    private static final int[] WEIGHTS_NOT_GOOD = {-21, 21, MIN, MAX};
    private static final int[] STEPS_NOT_GOOD = {-1, 41, MIN, MAX};

    public static void main(String[] args) {
        orderInParameter();
        orderInCombine();
        orderInSquare();
        orderInTerm();
        orderInPlaceAndPush();
        orderInLeap();
        manyRefusedCalls();
        manyQuestions();
        lastOfManyCalls();
        Due.end();
    }

    private static void orderInParameter() {
        for (int bad : Edge.PARAMETERS_NOT_GOOD) {
            Edge.answersAndChangesNothing(ORDER + ": i, 24 nodes", State.FULL, -1, "parameter", bad);
            Edge.answersAndChangesNothing(ORDER + ": i, 24 nodes", State.FULL_NODES, -1, "parameter", bad);
        }
    }

    private static void orderInCombine() {
        for (State state : State.values()) {
            for (int node : Edge.nodesNotGood(state)) {
                for (int kind : KINDS_NOT_GOOD) {
                    Edge.answersAndChangesNothing(ORDER + ": kind, a", state, -1, "combine", kind, node, 0);
                    Edge.answersAndChangesNothing(ORDER + ": kind, b", state, -1, "combine", kind, 0, node);
                }
            }
        }
        for (State state : new State[] {State.FULL, State.FULL_NODES}) {
            for (int kind : KINDS_NOT_GOOD) {
                Edge.answersAndChangesNothing(ORDER + ": kind, 24 nodes", state, -1, "combine", kind, 0, 23);
            }
            for (int node : Edge.nodesNotGood(state)) {
                Edge.answersAndChangesNothing(ORDER + ": 24 nodes, a", state, -2, "combine", 0, node, 0);
                Edge.answersAndChangesNothing(ORDER + ": 24 nodes, b", state, -2, "combine", 2, 0, node);
                Edge.answersAndChangesNothing(ORDER + ": 24 nodes, a, b", state, -2, "combine", 1, node, node);
            }
        }
    }

    private static void orderInSquare() {
        for (State state : new State[] {State.FULL, State.FULL_NODES}) {
            for (int node : Edge.nodesNotGood(state)) {
                Edge.answersAndChangesNothing(ORDER + ": 24 nodes, a", state, -2, "square", node);
            }
        }
    }

    private static void orderInTerm() {
        for (State state : State.values()) {
            for (int node : Edge.nodesNotGood(state)) {
                for (int weight : WEIGHTS_NOT_GOOD) {
                    Edge.answersAndChangesNothing(ORDER + ": node, weight", state, -1, "term", node, weight);
                }
            }
        }
        for (State state : new State[] {State.FULL, State.FULL_TERMS}) {
            for (int node : Edge.nodesNotGood(state)) {
                Edge.answersAndChangesNothing(ORDER + ": node, 8 terms", state, -1, "term", node, 1);
            }
            for (int weight : WEIGHTS_NOT_GOOD) {
                Edge.answersAndChangesNothing(ORDER + ": weight, 8 terms", state, -2, "term", 0, weight);
            }
        }
    }

    private static void orderInPlaceAndPush() {
        for (State state : State.values()) {
            for (int chain : Edge.CHAINS_NOT_GOOD) {
                for (int i : Edge.PARAMETERS_NOT_GOOD) {
                    Edge.answersAndChangesNothing(ORDER + ": chain, i", state, -1, "place", chain, i, 1000);
                    Edge.answersAndChangesNothing(ORDER + ": chain, i", state, -1, "push", chain, i, 1000);
                }
            }
        }
    }

    private static void orderInLeap() {
        for (State state : State.values()) {
            for (int chain : Edge.CHAINS_NOT_GOOD) {
                for (int steps : STEPS_NOT_GOOD) {
                    Edge.answersAndChangesNothing(ORDER + ": chain, steps", state, -1, "leap", chain, steps);
                }
            }
        }
    }

    private static void manyRefusedCalls() {
        for (State state : State.values()) {
            List<Call> refused = refusedCalls(state);
            TapeSampler s = state.make();
            for (Call call : refused) {
                Due.holds(call + " on " + state + " is refused", call.on(s) < 0);
            }
            Edge.changeNothing("A refused call changes nothing", state, refused);
        }
    }

    private static List<Call> refusedCalls(State state) {
        List<Call> calls = new ArrayList<>();
        addRefusedModelCalls(calls, state);
        addRefusedChainCalls(calls);
        return calls;
    }

    private static void addRefusedModelCalls(List<Call> calls, State state) {
        for (int i : Edge.PARAMETERS_NOT_GOOD) {
            calls.add(new Call("parameter", i));
        }
        for (int kind : KINDS_NOT_GOOD) {
            calls.add(new Call("combine", kind, 0, 0));
        }
        for (int node : Edge.nodesNotGood(state)) {
            calls.add(new Call("combine", 0, node, 0));
            calls.add(new Call("combine", 2, 0, node));
            calls.add(new Call("square", node));
            calls.add(new Call("term", node, 1));
        }
        for (int weight : WEIGHTS_NOT_GOOD) {
            calls.add(new Call("term", 0, weight));
        }
        if (!state.hasRoomForNodes()) {
            calls.add(new Call("parameter", 0));
            calls.add(new Call("constant", 0));
            calls.add(new Call("combine", 1, 0, 23));
            calls.add(new Call("square", 23));
        }
        if (!state.hasRoomForTerms()) {
            calls.add(new Call("term", 0, 20));
        }
    }

    private static void addRefusedChainCalls(List<Call> calls) {
        for (int chain : Edge.CHAINS_NOT_GOOD) {
            calls.add(new Call("place", chain, 0, 1000));
            calls.add(new Call("push", chain, 0, 1000));
            calls.add(new Call("leap", chain, 1));
            calls.add(new Call("turn", chain));
            calls.add(new Call("copy", chain, 0));
            calls.add(new Call("copy", 0, chain));
        }
        for (int i : Edge.PARAMETERS_NOT_GOOD) {
            calls.add(new Call("place", 1, i, 1000));
            calls.add(new Call("push", 1, i, 1000));
        }
        for (int steps : STEPS_NOT_GOOD) {
            calls.add(new Call("leap", 1, steps));
        }
        calls.add(new Call("shift", -1));
        calls.add(new Call("shift", 21));
    }

    private static void manyQuestions() {
        for (State state : State.values()) {
            Edge.changeNothing("No question changes anything", state, questions(state));
        }
    }

    private static List<Call> questions(State state) {
        List<Call> calls = new ArrayList<>();
        for (int chain = -1; chain <= 3; chain++) {
            for (int i = -1; i <= 4; i++) {
                calls.add(new Call("position", chain, i));
                calls.add(new Call("momentum", chain, i));
                calls.add(new Call("slope", chain, i));
                calls.add(new Call("targetAt", chain, i, MAX));
            }
            calls.add(new Call("valueOf", chain, -1));
            calls.add(new Call("valueOf", chain, state.nodes - 1));
            calls.add(new Call("valueOf", chain, state.nodes));
            calls.add(new Call("target", chain));
            calls.add(new Call("drift", chain));
        }
        calls.add(new Call("nodes"));
        calls.add(new Call("terms"));
        calls.add(new Call("live"));
        return calls;
    }

    /** The 512 calls of an object fill and clear the model over and over; the last ones are answered as well. */
    private static void lastOfManyCalls() {
        TapeSampler s = new TapeSampler();
        for (int round = 0; round < 15; round++) {
            for (int node = 0; node < 24; node++) {
                Due.is("constant in round " + round, s.constant(round), node);
            }
            for (int t = 1; t <= 8; t++) {
                Due.is("term in round " + round, s.term(24 - t, t), t);
            }
            Due.is("target in round " + round, s.target(0), 36 * round);
            Due.is("clear in round " + round, s.clear(), 24);
        }
        Due.is("call 511", s.place(2, 3, MIN), 0);
        Due.is("call 512", s.position(2, 3), MIN);
    }
}
