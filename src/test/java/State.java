import java.util.ArrayList;
import java.util.List;

/** Objects to start from: the empty model, the full one, and what lies at their edges. */
enum State {
    NEW(0, 0),
    NO_MODEL(0, 0),
    CLEARED(0, 0),
    ONE_NODE(1, 1),
    NO_TERMS(9, 0),
    ORDINARY(12, 3),
    ONE_SHORT(23, 7),
    FULL_NODES(24, 2),
    FULL_TERMS(5, 8),
    FULL(24, 8);

    private static final int[] WEIGHTS = {-20, 20, 1, -1, 7, -13, 3, 19};

    final int nodes;
    final int terms;

    State(int nodes, int terms) {
        this.nodes = nodes;
        this.terms = terms;
    }

    TapeSampler make() {
        TapeSampler s = new TapeSampler();
        for (Call call : calls()) {
            call.on(s);
        }
        return s;
    }

    /** What leads from a new object to this state; far fewer than 512. */
    List<Call> calls() {
        List<Call> calls = new ArrayList<>();
        if (this != NEW) {
            addChains(calls);
        }
        if (this == CLEARED) {
            addModel(calls, 24, 8);
            calls.add(new Call("clear"));
        }
        addModel(calls, nodes, terms);
        return calls;
    }

    boolean hasRoomForNodes() {
        return nodes < 24;
    }

    boolean hasRoomForTerms() {
        return terms < 8;
    }

    int shift() {
        return this == NEW ? 0 : 5;
    }

    int position(int chain, int i) {
        return this == NEW ? 0 : 100 * chain + 10 * i + 3;
    }

    int momentum(int chain, int i) {
        return this == NEW ? 0 : 7 - 50 * chain - 5 * i;
    }

    private void addChains(List<Call> calls) {
        for (int chain = 0; chain < 3; chain++) {
            for (int i = 0; i < 4; i++) {
                calls.add(new Call("place", chain, i, position(chain, i)));
                calls.add(new Call("push", chain, i, momentum(chain, i)));
            }
        }
        calls.add(new Call("shift", shift()));
    }

    private static void addModel(List<Call> calls, int nodeCount, int termCount) {
        for (int node = 0; node < nodeCount; node++) {
            calls.add(nodeMaker(node));
        }
        for (int t = 0; t < termCount; t++) {
            calls.add(new Call("term", (7 - t) * (nodeCount - 1) / 7, WEIGHTS[t]));
        }
    }

    private static Call nodeMaker(int node) {
        if (node < 4) {
            return new Call("parameter", node);
        }
        if (node == 4) {
            return new Call("constant", 5);
        }
        if (node % 4 == 0) {
            return new Call("square", node - 1);
        }
        return new Call("combine", node % 4 - 1, node - 1, node % 5);
    }
}
