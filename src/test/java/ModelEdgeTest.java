/** The edges that the document names for the model: promises 1 to 9, 23 and 24. */
public final class ModelEdgeTest {
    private static final int MIN = Edge.MIN;
    private static final int MAX = Edge.MAX;

    public static void main(String[] args) {
        newModelIsEmpty();
        newChainsAreZero();
        newShiftIsZero();
        parameterNotGood();
        parameterWithFullNodes();
        parameterNumbers();
        constantWithFullNodes();
        constantNumbers();
        combineKindNotGood();
        combineWithFullNodes();
        combineNodeNotGood();
        combineNumbers();
        squareWithFullNodes();
        squareNodeNotGood();
        squareNumbers();
        termNodeNotGood();
        termWeightNotGood();
        termWithFullTerms();
        termNumbers();
        clearAnswers();
        clearTakesNodesAway();
        clearTakesTermsAway();
        clearLeavesChainsAndShift();
        nodesFromEmptyToFull();
        termsFromEmptyToFull();
        liveFromEmptyToFull();
        liveOverOthers();
        liveAfterClear();
        liveWithWeightZero();
        Due.end();
    }

    private static void newModelIsEmpty() {
        String sentence = "1: The empty model";
        Edge.answersAndChangesNothing(sentence, State.NEW, 0, "nodes");
        Edge.answersAndChangesNothing(sentence, State.NEW, 0, "terms");
        Edge.answersAndChangesNothing(sentence, State.NEW, 0, "live");
        Edge.answers(sentence, State.NEW, 0, "clear");
        Edge.answers(sentence, State.NEW, 0, "parameter", 3);
        Edge.answers(sentence, State.NEW, 0, "constant", 9);
        Edge.answersAndChangesNothing(sentence, State.NEW, -3, "square", 0);
        Edge.answersAndChangesNothing(sentence, State.NEW, -3, "combine", 0, 0, 0);
        Edge.answersAndChangesNothing(sentence, State.NEW, -1, "term", 0, 0);
        TapeSampler full = State.FULL.make();
        Due.is("1: The empty model, beside a full one", new TapeSampler().nodes(), 0);
        Due.is("1: the full one stays full", full.nodes(), 24);
    }

    private static void newChainsAreZero() {
        TapeSampler s = new TapeSampler();
        for (int chain = 0; chain < 3; chain++) {
            for (int i = 0; i < 4; i++) {
                Due.is("1: positions all 0 at first", s.position(chain, i), 0);
                Due.is("1: momenta all 0 at first", s.momentum(chain, i), 0);
            }
        }
    }

    private static void newShiftIsZero() {
        Edge.answers("1: shift 0 at first", State.NEW, 0, "shift", 20);
        TapeSampler s = new TapeSampler();
        s.parameter(0);
        s.term(0, 1);
        s.leap(0, 1);
        Due.is("1: shift 0 at first, in a leap", s.momentum(0, 0), 2);
    }

    private static void parameterNotGood() {
        String sentence = "2: -1 if i is not good";
        for (State state : State.values()) {
            for (int bad : Edge.PARAMETERS_NOT_GOOD) {
                Edge.answersAndChangesNothing(sentence, state, -1, "parameter", bad);
            }
        }
        Edge.answers("2: 0 is good", State.ORDINARY, 12, "parameter", 0);
        Edge.answers("2: 3 is good", State.ORDINARY, 12, "parameter", 3);
    }

    private static void parameterWithFullNodes() {
        String sentence = "2: -2 if there are 24 nodes";
        for (int i = 0; i < 4; i++) {
            Edge.answersAndChangesNothing(sentence, State.FULL, -2, "parameter", i);
            Edge.answersAndChangesNothing(sentence, State.FULL_NODES, -2, "parameter", i);
            Edge.answers("2: there are 23 nodes", State.ONE_SHORT, 23, "parameter", i);
        }
    }

    private static void parameterNumbers() {
        TapeSampler s = State.NO_MODEL.make();
        for (int node = 0; node < 24; node++) {
            Due.is("2: answers its number", s.parameter(node % 4), node);
        }
        for (int node = 0; node < 24; node++) {
            Due.is("2: first chain", s.valueOf(0, node), State.NO_MODEL.position(0, node % 4));
            Due.is("2: last chain", s.valueOf(2, node), State.NO_MODEL.position(2, node % 4));
        }
    }

    private static void constantWithFullNodes() {
        String sentence = "3: -2 if there are 24 nodes";
        for (int c : new int[] {0, 1, -1, 24, MIN, MAX}) {
            Edge.answersAndChangesNothing(sentence, State.FULL, -2, "constant", c);
            Edge.answersAndChangesNothing(sentence, State.FULL_NODES, -2, "constant", c);
            Edge.answers("3: there are 23 nodes", State.ONE_SHORT, 23, "constant", c);
        }
    }

    private static void constantNumbers() {
        TapeSampler s = State.NO_MODEL.make();
        for (int node = 0; node < 24; node++) {
            Due.is("3: answers its number", s.constant(node < 12 ? MIN + node : MAX - node), node);
        }
        for (int node = 0; node < 24; node++) {
            Due.is("3: every int can be c", s.valueOf(1, node), node < 12 ? MIN + node : MAX - node);
        }
    }

    private static void combineKindNotGood() {
        String sentence = "4: -1 if kind is not in 0 .. 2";
        for (State state : State.values()) {
            for (int bad : new int[] {-1, 3, 4, 5, MIN, MAX}) {
                Edge.answersAndChangesNothing(sentence, state, -1, "combine", bad, 0, 0);
            }
        }
        Edge.answers("4: kind 0 is good", State.ORDINARY, 12, "combine", 0, 0, 11);
        Edge.answers("4: kind 2 is good", State.ORDINARY, 12, "combine", 2, 11, 0);
    }

    private static void combineWithFullNodes() {
        String sentence = "4: -2 if there are 24 nodes";
        for (int kind = 0; kind < 3; kind++) {
            Edge.answersAndChangesNothing(sentence, State.FULL, -2, "combine", kind, 0, 23);
            Edge.answersAndChangesNothing(sentence, State.FULL_NODES, -2, "combine", kind, 23, 0);
            Edge.answers("4: there are 23 nodes", State.ONE_SHORT, 23, "combine", kind, 0, 22);
        }
    }

    private static void combineNodeNotGood() {
        String sentence = "4: -3 if a or b is not good";
        for (State state : State.values()) {
            if (state.hasRoomForNodes()) {
                for (int bad : Edge.nodesNotGood(state)) {
                    Edge.answersAndChangesNothing(sentence, state, -3, "combine", 0, bad, 0);
                    Edge.answersAndChangesNothing(sentence, state, -3, "combine", 1, 0, bad);
                    Edge.answersAndChangesNothing(sentence, state, -3, "combine", 2, bad, bad);
                }
            }
        }
        Edge.answers("4: the last node is good", State.ORDINARY, 12, "combine", 0, 11, 11);
        Edge.answers("4: the first node is good", State.ORDINARY, 12, "combine", 1, 0, 0);
        Edge.answers("4: the only node is good", State.ONE_NODE, 1, "combine", 2, 0, 0);
    }

    private static void combineNumbers() {
        TapeSampler s = new TapeSampler();
        s.constant(3);
        for (int node = 1; node < 24; node++) {
            Due.is("4: answers its number", s.combine(node % 3, node - 1, 0), node);
        }
        int[] due = {3, 0, 0, 3, 0, 0, 3, 0, 0, 3, 0, 0, 3, 0, 0, 3, 0, 0, 3, 0, 0, 3, 0, 0};
        for (int node = 0; node < 24; node++) {
            Due.is("4: value of node " + node, s.valueOf(0, node), due[node]);
        }
    }

    private static void squareWithFullNodes() {
        String sentence = "5: -2 if there are 24 nodes";
        for (int a = 0; a < 24; a++) {
            Edge.answersAndChangesNothing(sentence, State.FULL, -2, "square", a);
            Edge.answersAndChangesNothing(sentence, State.FULL_NODES, -2, "square", a);
        }
        Edge.answers("5: there are 23 nodes", State.ONE_SHORT, 23, "square", 0);
        Edge.answers("5: there are 23 nodes", State.ONE_SHORT, 23, "square", 22);
    }

    private static void squareNodeNotGood() {
        String sentence = "5: -3 if a is not good";
        for (State state : State.values()) {
            if (state.hasRoomForNodes()) {
                for (int bad : Edge.nodesNotGood(state)) {
                    Edge.answersAndChangesNothing(sentence, state, -3, "square", bad);
                }
            }
        }
        Edge.answers("5: the first node is good", State.ORDINARY, 12, "square", 0);
        Edge.answers("5: the last node is good", State.ORDINARY, 12, "square", 11);
        Edge.answers("5: the only node is good", State.ONE_NODE, 1, "square", 0);
    }

    private static void squareNumbers() {
        TapeSampler s = new TapeSampler();
        s.constant(-1);
        for (int node = 1; node < 24; node++) {
            Due.is("5: answers its number", s.square(node - 1), node);
        }
        Due.is("5: value of node 0", s.valueOf(0, 0), -1);
        for (int node = 1; node < 24; node++) {
            Due.is("5: value of node " + node, s.valueOf(0, node), 1);
        }
    }

    private static void termNodeNotGood() {
        String sentence = "6: -1 if node is not good";
        for (State state : State.values()) {
            for (int bad : Edge.nodesNotGood(state)) {
                Edge.answersAndChangesNothing(sentence, state, -1, "term", bad, 0);
                Edge.answersAndChangesNothing(sentence, state, -1, "term", bad, 20);
            }
        }
        Edge.answers("6: the first node is good", State.ORDINARY, 4, "term", 0, 1);
        Edge.answers("6: the last node is good", State.ORDINARY, 4, "term", 11, 1);
        Edge.answers("6: the last of 24 is good", State.FULL_NODES, 3, "term", 23, 1);
        Edge.answers("6: the only node is good", State.ONE_NODE, 2, "term", 0, 1);
    }

    private static void termWeightNotGood() {
        String sentence = "6: -2 if weight is not in -20 .. 20";
        for (State state : State.values()) {
            if (state.nodes > 0) {
                for (int bad : new int[] {-21, 21, -22, 22, MIN, MAX}) {
                    Edge.answersAndChangesNothing(sentence, state, -2, "term", state.nodes - 1, bad);
                }
            }
        }
        for (int weight = -20; weight <= 20; weight++) {
            Edge.answers("6: a good weight", State.ORDINARY, 4, "term", 11, weight);
            TapeSampler s = new TapeSampler();
            s.constant(1000);
            s.term(0, weight);
            Due.is("6: weight " + weight + " is kept", s.target(0), 1000 * weight);
        }
    }

    private static void termWithFullTerms() {
        String sentence = "6: -3 if there are 8 terms";
        for (int weight : new int[] {-20, -1, 0, 1, 20}) {
            Edge.answersAndChangesNothing(sentence, State.FULL, -3, "term", 0, weight);
            Edge.answersAndChangesNothing(sentence, State.FULL, -3, "term", 23, weight);
            Edge.answersAndChangesNothing(sentence, State.FULL_TERMS, -3, "term", 4, weight);
            Edge.answers("6: there are 7 terms", State.ONE_SHORT, 8, "term", 22, weight);
        }
    }

    private static void termNumbers() {
        TapeSampler s = new TapeSampler();
        s.constant(1);
        for (int t = 1; t <= 8; t++) {
            Due.is("6: answers how many there are now", s.term(0, 0), t);
        }
        Due.is("6: the ninth", s.term(0, 0), -3);
    }

    private static void clearAnswers() {
        for (State state : State.values()) {
            Edge.answers("7: answers how many nodes there were", state, state.nodes, "clear");
            TapeSampler s = state.make();
            s.clear();
            Due.is("7: clear of an empty model, after " + state, s.clear(), 0);
        }
    }

    private static void clearTakesNodesAway() {
        for (State state : State.values()) {
            TapeSampler s = state.make();
            s.clear();
            Due.is("7: nodes", s.nodes(), 0);
            for (int node = 0; node < 24; node++) {
                Due.is("7: no node is left, " + state, s.valueOf(0, node), 0);
                Due.is("7: no node is left, " + state, s.term(node, 1), -1);
                Due.is("7: no node is left, " + state, s.square(node), -3);
                Due.is("7: no node is left, " + state, s.combine(0, node, node), -3);
            }
            for (int node = 0; node < 24; node++) {
                Due.is("7: room for 24 again, " + state, s.constant(node + 1), node);
            }
            Due.is("7: and not for 25, " + state, s.constant(1), -2);
            Due.is("7: the last new node, " + state, s.valueOf(0, 23), 24);
        }
    }

    private static void clearTakesTermsAway() {
        for (State state : State.values()) {
            TapeSampler s = state.make();
            s.clear();
            Due.is("7: terms, " + state, s.terms(), 0);
            s.constant(100);
            s.parameter(0);
            Due.is("7: no old term weighs new nodes, " + state, s.target(0), 0);
            Due.is("7: no old term has a slope, " + state, s.slope(0, 0), 0);
            Due.is("7: no old term is live, " + state, s.live(), 0);
            for (int t = 1; t <= 8; t++) {
                Due.is("7: room for 8 again, " + state, s.term(0, t), t);
            }
            Due.is("7: and not for 9, " + state, s.term(0, 1), -3);
            Due.is("7: the new terms alone, " + state, s.target(0), 3600);
        }
    }

    private static void clearLeavesChainsAndShift() {
        for (State state : State.values()) {
            TapeSampler s = state.make();
            s.clear();
            for (int chain = 0; chain < 3; chain++) {
                for (int i = 0; i < 4; i++) {
                    Due.is("7: Chains stay, " + state, s.position(chain, i), state.position(chain, i));
                    Due.is("7: Chains stay, " + state, s.momentum(chain, i), state.momentum(chain, i));
                }
            }
            Due.is("7: shift stays, " + state, s.shift(1), state.shift());
        }
    }

    private static void nodesFromEmptyToFull() {
        TapeSampler s = new TapeSampler();
        for (int count = 0; count < 24; count++) {
            Due.is("8: How many nodes there are", s.nodes(), count);
            s.constant(count);
        }
        Due.is("8: 24 nodes", s.nodes(), 24);
        s.constant(24);
        Due.is("8: 24 nodes and no more", s.nodes(), 24);
        for (State state : State.values()) {
            Edge.answersAndChangesNothing("8: How many nodes there are", state, state.nodes, "nodes");
        }
    }

    private static void termsFromEmptyToFull() {
        TapeSampler s = new TapeSampler();
        s.constant(1);
        for (int count = 0; count < 8; count++) {
            Due.is("9: How many terms there are", s.terms(), count);
            s.term(0, count);
        }
        Due.is("9: 8 terms", s.terms(), 8);
        s.term(0, 1);
        Due.is("9: 8 terms and no more", s.terms(), 8);
        for (State state : State.values()) {
            Edge.answersAndChangesNothing("9: How many terms there are", state, state.terms, "terms");
        }
    }

    private static void liveFromEmptyToFull() {
        String sentence = "23: How many nodes the target depends on";
        Edge.answersAndChangesNothing(sentence, State.NEW, 0, "live");
        Edge.answersAndChangesNothing(sentence, State.CLEARED, 0, "live");
        Edge.answersAndChangesNothing(sentence, State.NO_TERMS, 0, "live");
        Edge.answersAndChangesNothing(sentence, State.ONE_NODE, 1, "live");
        Edge.answersAndChangesNothing(sentence, State.ORDINARY, 11, "live");
        Edge.answersAndChangesNothing(sentence, State.FULL, 24, "live");
        TapeSampler s = new TapeSampler();
        for (int node = 0; node < 24; node++) {
            s.parameter(node % 4);
        }
        for (int t = 1; t <= 8; t++) {
            s.term(24 - t, 1);
            Due.is("23: full nodes that are made of none", s.live(), t);
        }
    }

    private static void liveOverOthers() {
        TapeSampler s = new TapeSampler();
        s.constant(2);
        s.constant(3);
        for (int node = 2; node < 23; node++) {
            s.combine(node % 3, node - 1, node - 1);
        }
        s.square(22);
        s.term(0, 1);
        Due.is("23: a node that others are not made of", s.live(), 1);
        s.term(1, 1);
        Due.is("23: a node that 22 others are made of", s.live(), 2);
        s.term(2, 1);
        Due.is("23: directly", s.live(), 3);
        s.term(23, 1);
        Due.is("23: over 21 others", s.live(), 24);
        s.term(23, 1);
        Due.is("23: each node once", s.live(), 24);
    }

    private static void liveAfterClear() {
        TapeSampler s = State.FULL.make();
        Due.is("23: all 24", s.live(), 24);
        s.clear();
        Due.is("23: none after clear", s.live(), 0);
        for (int node = 0; node < 24; node++) {
            s.constant(node);
        }
        Due.is("23: no new node without a term", s.live(), 0);
        s.term(0, 1);
        Due.is("23: the first of the new nodes", s.live(), 1);
        s.term(23, 1);
        Due.is("23: the first and the last", s.live(), 2);
    }

    private static void liveWithWeightZero() {
        TapeSampler s = State.NO_TERMS.make();
        s.term(3, 0);
        Due.is("24: live counts nodes of terms with weight 0, too", s.live(), 1);
        s.term(8, 0);
        Due.is("24: and the nodes that they are made of", s.live(), 9);
        Due.is("24: the weight stays 0", s.target(2), 0);
        s.term(8, 20);
        Due.is("24: the same with another weight", s.live(), 9);
        Due.is("24: the weight 0 term counts as a term", s.terms(), 3);
    }
}
