/** The edges that the document names for values, targets, slopes and drift: promises 15 to 19. */
public final class SlopeEdgeTest {
    private static final int MIN = Edge.MIN;
    private static final int MAX = Edge.MAX;
    // Of the state FULL on chains 0 .. 2, worked out apart in whole numbers that do not wrap, then wrapped once.
    private static final int[] FULL_LAST_VALUES = {-369696481, -593266565, -619867049};
    private static final int[] FULL_TARGETS = {-778973698, 799025914, 1357496598};
    private static final int[] FULL_DRIFTS = {604696156, 1626831550, 1901037696};
    private static final int[][] FULL_SLOPES = {
        {285429852, -2107333147, -1278541690, -946957876},
        {-1173961716, -1726118147, 1216201934, 1751866020},
        {294588220, 675623829, 731683478, -1621918916}};
    private static final int[][] FULL_TARGETS_AT_6 = {
        {-854852288, -1094601924, -181209909, 1582474423},
        {-26968604, -453358228, -1026070193, -1479889173},
        {239562632, 406391964, -832116781, 1462374399}};

    public static void main(String[] args) {
        valueChainNotGood();
        valueNodeNotGood();
        valueOfFirstAndLast();
        targetChainNotGood();
        targetWithoutTerms();
        targetOfFullModel();
        slopeChainNotGood();
        slopeParameterNotGood();
        slopeWithoutTerms();
        slopeOfParameters();
        slopeOfConstants();
        slopeOfFullModel();
        driftChainNotGood();
        driftWithoutTermsOrMomenta();
        driftOfFullModel();
        targetAtChainNotGood();
        targetAtParameterNotGood();
        targetAtWithoutTerms();
        targetAtTheEnds();
        targetAtOfFullModel();
        Due.end();
    }

    private static void valueChainNotGood() {
        String sentence = "15: 0 if chain is not good";
        for (int bad : Edge.CHAINS_NOT_GOOD) {
            Edge.answersAndChangesNothing(sentence, State.FULL, 0, "valueOf", bad, 4);
            Edge.answersAndChangesNothing(sentence, State.FULL, 0, "valueOf", bad, 24);
            Edge.answersAndChangesNothing(sentence, State.FULL, 0, "valueOf", bad, -1);
        }
        Edge.answersAndChangesNothing("15: chain 0 is good", State.FULL, 5, "valueOf", 0, 4);
        Edge.answersAndChangesNothing("15: chain 2 is good", State.FULL, 5, "valueOf", 2, 4);
    }

    private static void valueNodeNotGood() {
        String sentence = "15: 0 if node is not good";
        for (State state : State.values()) {
            for (int bad : Edge.nodesNotGood(state)) {
                Edge.answersAndChangesNothing(sentence, state, 0, "valueOf", 0, bad);
                Edge.answersAndChangesNothing(sentence, state, 0, "valueOf", 2, bad);
            }
        }
        for (int node = 0; node < 24; node++) {
            Edge.answersAndChangesNothing(sentence, State.CLEARED, 0, "valueOf", 1, node);
        }
    }

    private static void valueOfFirstAndLast() {
        for (int chain = 0; chain < 3; chain++) {
            int first = State.FULL.position(chain, 0);
            Edge.answersAndChangesNothing("15: the first node", State.FULL, first, "valueOf", chain, 0);
            Edge.answersAndChangesNothing("15: the only node", State.ONE_NODE, first, "valueOf", chain, 0);
            Edge.answersAndChangesNothing("15: the last of 24", State.FULL, FULL_LAST_VALUES[chain], "valueOf", chain, 23);
        }
    }

    private static void targetChainNotGood() {
        for (int bad : Edge.CHAINS_NOT_GOOD) {
            Edge.answersAndChangesNothing("16: 0 if chain is not good", State.FULL, 0, "target", bad);
        }
        TapeSampler s = new TapeSampler();
        s.constant(9);
        s.term(0, 1);
        for (int bad : Edge.CHAINS_NOT_GOOD) {
            Due.is("16: 0 if chain is not good, of a constant", s.target(bad), 0);
        }
        Due.is("16: chain 0 is good", s.target(0), 9);
        Due.is("16: chain 2 is good", s.target(2), 9);
    }

    private static void targetWithoutTerms() {
        for (int chain = 0; chain < 3; chain++) {
            Edge.answersAndChangesNothing("16: the sum over no terms", State.NEW, 0, "target", chain);
            Edge.answersAndChangesNothing("16: the sum over no terms", State.NO_MODEL, 0, "target", chain);
            Edge.answersAndChangesNothing("16: the sum over no terms", State.CLEARED, 0, "target", chain);
            Edge.answersAndChangesNothing("16: the sum over no terms", State.NO_TERMS, 0, "target", chain);
        }
    }

    private static void targetOfFullModel() {
        for (int chain = 0; chain < 3; chain++) {
            Edge.answersAndChangesNothing("16: 24 nodes and 8 terms", State.FULL, FULL_TARGETS[chain], "target", chain);
        }
        TapeSampler s = new TapeSampler();
        s.constant(1);
        for (int t = 0; t < 8; t++) {
            s.term(0, 20);
            Due.is("16: over all terms", s.target(1), 20 * (t + 1));
        }
        s.term(0, 20);
        Due.is("16: a ninth term weighs nothing", s.target(1), 160);
    }

    private static void slopeChainNotGood() {
        for (int bad : Edge.CHAINS_NOT_GOOD) {
            for (int i = -1; i <= 4; i++) {
                Edge.answersAndChangesNothing("17: 0 if chain is not good", State.FULL, 0, "slope", bad, i);
                Edge.answersAndChangesNothing("17: 0 if chain is not good", State.ONE_NODE, 0, "slope", bad, i);
            }
        }
    }

    private static void slopeParameterNotGood() {
        for (int bad : Edge.PARAMETERS_NOT_GOOD) {
            for (int chain = 0; chain < 3; chain++) {
                Edge.answersAndChangesNothing("17: 0 if i is not good", State.FULL, 0, "slope", chain, bad);
                Edge.answersAndChangesNothing("17: 0 if i is not good", State.FULL_TERMS, 0, "slope", chain, bad);
            }
        }
    }

    private static void slopeWithoutTerms() {
        for (int cell = 0; cell < 12; cell++) {
            Edge.answersAndChangesNothing("17: over no terms", State.NEW, 0, "slope", cell / 4, cell % 4);
            Edge.answersAndChangesNothing("17: over no terms", State.CLEARED, 0, "slope", cell / 4, cell % 4);
            Edge.answersAndChangesNothing("17: over no terms", State.NO_TERMS, 0, "slope", cell / 4, cell % 4);
        }
    }

    private static void slopeOfParameters() {
        for (int own = 0; own < 4; own++) {
            TapeSampler s = State.NO_MODEL.make();
            s.parameter(own);
            s.term(0, 1);
            for (int i = 0; i < 4; i++) {
                int due = i == own ? 1 : 0;
                Due.is("17: 1 for PARAMETER i and 0 for the others", s.slope(0, i), due);
                Due.is("17: 1 for PARAMETER i and 0 for the others", s.slope(2, i), due);
            }
        }
    }

    private static void slopeOfConstants() {
        TapeSampler s = State.NO_MODEL.make();
        for (int c = 0; c < 4; c++) {
            s.constant(c);
            s.term(c, 1);
        }
        s.constant(MIN);
        s.constant(MAX);
        s.term(4, 1);
        s.term(5, 1);
        for (int i = 0; i < 4; i++) {
            Due.is("17: 0 for CONSTANT", s.slope(1, i), 0);
        }
    }

    private static void slopeOfFullModel() {
        for (int cell = 0; cell < 12; cell++) {
            int due = FULL_SLOPES[cell / 4][cell % 4];
            Edge.answersAndChangesNothing("17: 24 nodes and 8 terms", State.FULL, due, "slope", cell / 4, cell % 4);
        }
        TapeSampler s = new TapeSampler();
        s.parameter(3);
        for (int t = 0; t < 8; t++) {
            s.term(0, -20);
            Due.is("17: over all terms", s.slope(1, 3), -20 * (t + 1));
        }
        s.term(0, -20);
        Due.is("17: a ninth term has no slope", s.slope(1, 3), -160);
    }

    private static void driftChainNotGood() {
        for (int bad : Edge.CHAINS_NOT_GOOD) {
            Edge.answersAndChangesNothing("18: 0 if chain is not good", State.FULL, 0, "drift", bad);
            Edge.answersAndChangesNothing("18: 0 if chain is not good", State.ONE_NODE, 0, "drift", bad);
        }
    }

    private static void driftWithoutTermsOrMomenta() {
        for (int chain = 0; chain < 3; chain++) {
            Edge.answersAndChangesNothing("18: no terms", State.NEW, 0, "drift", chain);
            Edge.answersAndChangesNothing("18: no terms", State.CLEARED, 0, "drift", chain);
            Edge.answersAndChangesNothing("18: no terms", State.NO_TERMS, 0, "drift", chain);
        }
        TapeSampler s = State.FULL.make();
        for (int i = 0; i < 4; i++) {
            s.push(1, i, 0);
        }
        Due.is("18: no momenta", s.drift(1), 0);
        for (int i = 0; i < 4; i++) {
            s.push(1, i, 1);
            Due.is("18: one momentum alone", s.drift(1), FULL_SLOPES[1][i]);
            s.push(1, i, 0);
        }
    }

    private static void driftOfFullModel() {
        for (int chain = 0; chain < 3; chain++) {
            Edge.answersAndChangesNothing("18: i = 0 .. 3", State.FULL, FULL_DRIFTS[chain], "drift", chain);
        }
    }

    private static void targetAtChainNotGood() {
        for (int bad : Edge.CHAINS_NOT_GOOD) {
            for (int i = -1; i <= 4; i++) {
                Edge.answersAndChangesNothing("19: 0 if chain is not good", State.FULL, 0, "targetAt", bad, i, 6);
            }
        }
        TapeSampler s = new TapeSampler();
        s.constant(9);
        s.term(0, 1);
        for (int bad : Edge.CHAINS_NOT_GOOD) {
            Due.is("19: 0 if chain is not good, of a constant", s.targetAt(bad, 0, 6), 0);
        }
        Due.is("19: chain 0 is good", s.targetAt(0, 0, 6), 9);
        Due.is("19: chain 2 is good", s.targetAt(2, 0, 6), 9);
    }

    private static void targetAtParameterNotGood() {
        for (int bad : Edge.PARAMETERS_NOT_GOOD) {
            for (int chain = 0; chain < 3; chain++) {
                Edge.answersAndChangesNothing("19: 0 if i is not good", State.FULL, 0, "targetAt", chain, bad, 6);
                Edge.answersAndChangesNothing("19: 0 if i is not good", State.FULL_TERMS, 0, "targetAt", chain, bad, 6);
            }
        }
    }

    private static void targetAtWithoutTerms() {
        for (int cell = 0; cell < 12; cell++) {
            Edge.answersAndChangesNothing("19: no terms", State.NEW, 0, "targetAt", cell / 4, cell % 4, 6);
            Edge.answersAndChangesNothing("19: no terms", State.CLEARED, 0, "targetAt", cell / 4, cell % 4, 6);
            Edge.answersAndChangesNothing("19: no terms", State.NO_TERMS, 0, "targetAt", cell / 4, cell % 4, 6);
        }
    }

    private static void targetAtTheEnds() {
        TapeSampler s = State.NO_MODEL.make();
        s.parameter(3);
        s.term(0, 1);
        for (int x : new int[] {0, -1, MIN, MAX, MIN + 1, MAX - 1}) {
            Due.is("19: if position i were " + x, s.targetAt(2, 3, x), x);
            Due.is("19: another position were " + x, s.targetAt(2, 0, x), State.NO_MODEL.position(2, 3));
        }
    }

    private static void targetAtOfFullModel() {
        for (int cell = 0; cell < 12; cell++) {
            int chain = cell / 4;
            int i = cell % 4;
            int there = State.FULL.position(chain, i);
            Edge.answersAndChangesNothing("19: elsewhere", State.FULL, FULL_TARGETS_AT_6[chain][i], "targetAt", chain, i, 6);
            Edge.answersAndChangesNothing("19: where it is", State.FULL, FULL_TARGETS[chain], "targetAt", chain, i, there);
        }
    }
}
