/** For each promise of the document: ordinary inputs, the edges that it names, and wrong inputs. */
public final class PromiseTest {
    private static final int MIN = Integer.MIN_VALUE;
    private static final int MAX = Integer.MAX_VALUE;
    private static final int[] BAD_CHAINS = {-1, 3, 4, MIN, MAX};
    private static final int[] BAD_PARAMETERS = {-1, 4, 5, MIN, MAX};

    public static void main(String[] args) {
        newObject();
        parameterNodes();
        constantNodes();
        combineNodes();
        combineRefusals();
        squareNodes();
        putTerms();
        clearModel();
        countNodes();
        countTerms();
        placePositions();
        pushMomenta();
        setShift();
        readPositions();
        readMomenta();
        values();
        targets();
        slopes();
        drifts();
        targetsAt();
        leapOnce();
        leapRounding();
        leapAnswers();
        leapRefusals();
        turns();
        copies();
        liveNodes();
        liveEdges();
        orderAndLimits();
        questionsChangeNothing();
        Due.end();
    }

    // Promise 1
    private static void newObject() {
        TapeSampler s = new TapeSampler();
        Due.is("1: nodes", s.nodes(), 0);
        Due.is("1: terms", s.terms(), 0);
        Due.is("1: live", s.live(), 0);
        for (int chain = 0; chain < 3; chain++) {
            for (int i = 0; i < 4; i++) {
                Due.is("1: position", s.position(chain, i), 0);
                Due.is("1: momentum", s.momentum(chain, i), 0);
                Due.is("1: slope", s.slope(chain, i), 0);
            }
            Due.is("1: target", s.target(chain), 0);
            Due.is("1: drift", s.drift(chain), 0);
        }
        Due.is("1: shift", s.shift(3), 0);
        s.parameter(1);
        s.term(0, 2);
        s.place(1, 1, 9);
        TapeSampler other = new TapeSampler();
        Due.is("1: nodes of another object", other.nodes(), 0);
        Due.is("1: terms of another object", other.terms(), 0);
        Due.is("1: position of another object", other.position(1, 1), 0);
        Due.is("1: shift of another object", other.shift(0), 0);
    }

    // Promise 2
    private static void parameterNodes() {
        TapeSampler s = placed();
        for (int bad : BAD_PARAMETERS) {
            Due.is("2: parameter(" + bad + ")", s.parameter(bad), -1);
        }
        Due.is("2: nodes after refusals", s.nodes(), 0);
        for (int i = 3; i >= 0; i--) {
            Due.is("2: parameter(" + i + ")", s.parameter(i), 3 - i);
        }
        for (int node = 0; node < 4; node++) {
            Due.is("2: value on chain 0", s.valueOf(0, node), s.position(0, 3 - node));
            Due.is("2: value on chain 2", s.valueOf(2, node), s.position(2, 3 - node));
        }
        for (int node = 4; node < 24; node++) {
            Due.is("2: same parameter again", s.parameter(1), node);
        }
        Due.is("2: full", s.parameter(0), -2);
        Due.is("2: full and bad", s.parameter(4), -1);
        Due.is("2: full and bad", s.parameter(-1), -1);
        Due.is("2: nodes", s.nodes(), 24);
    }

    // Promise 3
    private static void constantNodes() {
        TapeSampler s = placed();
        int[] numbers = {0, 1, -1, 24, 1000, MIN, MAX};
        for (int n = 0; n < numbers.length; n++) {
            Due.is("3: constant(" + numbers[n] + ")", s.constant(numbers[n]), n);
        }
        for (int n = 0; n < numbers.length; n++) {
            Due.is("3: value", s.valueOf(0, n), numbers[n]);
            Due.is("3: value", s.valueOf(1, n), numbers[n]);
        }
        for (int n = numbers.length; n < 24; n++) {
            Due.is("3: constant", s.constant(n), n);
        }
        Due.is("3: full", s.constant(5), -2);
        Due.is("3: nodes", s.nodes(), 24);
        Due.is("3: last value", s.valueOf(2, 23), 23);
    }

    // Promise 4
    private static void combineNodes() {
        TapeSampler s = new TapeSampler();
        s.parameter(0);
        s.parameter(1);
        s.place(0, 0, 7);
        s.place(0, 1, -3);
        Due.is("4: sum", s.combine(0, 0, 1), 2);
        Due.is("4: difference", s.combine(1, 0, 1), 3);
        Due.is("4: difference the other way", s.combine(1, 1, 0), 4);
        Due.is("4: product", s.combine(2, 0, 1), 5);
        Due.is("4: product with itself", s.combine(2, 1, 1), 6);
        Due.is("4: difference with itself", s.combine(1, 5, 5), 7);
        Due.is("4: of later nodes", s.combine(0, 6, 5), 8);
        int[] due = {7, -3, 4, 10, -10, -21, 9, 0, -12};
        for (int node = 0; node < due.length; node++) {
            Due.is("4: value of " + node, s.valueOf(0, node), due[node]);
        }
        s.place(0, 0, MAX);
        s.place(0, 1, MIN);
        Due.is("4: sum at the ends", s.valueOf(0, 2), -1);
        Due.is("4: difference wraps", s.valueOf(0, 3), -1);
        Due.is("4: difference wraps", s.valueOf(0, 4), 1);
        Due.is("4: product wraps", s.valueOf(0, 5), MIN);
        s.place(0, 1, 1);
        Due.is("4: sum wraps", s.valueOf(0, 2), MIN);
    }

    // Promise 4
    private static void combineRefusals() {
        TapeSampler s = new TapeSampler();
        Due.is("4: without nodes", s.combine(0, 0, 0), -3);
        s.constant(2);
        s.constant(3);
        for (int kind : new int[] {-1, 3, 4, 5, MIN, MAX}) {
            Due.is("4: kind " + kind, s.combine(kind, 0, 1), -1);
            Due.is("4: kind " + kind + " and bad nodes", s.combine(kind, -1, 2), -1);
        }
        for (int bad : new int[] {-1, 2, 3, 24, MIN, MAX}) {
            Due.is("4: a is " + bad, s.combine(0, bad, 0), -3);
            Due.is("4: b is " + bad, s.combine(1, 1, bad), -3);
            Due.is("4: both are " + bad, s.combine(2, bad, bad), -3);
        }
        Due.is("4: nodes after refusals", s.nodes(), 2);
        for (int node = 2; node < 24; node++) {
            Due.is("4: combine", s.combine(node % 3, node - 1, node - 2), node);
        }
        Due.is("4: full", s.combine(0, 0, 1), -2);
        Due.is("4: full and bad node", s.combine(0, 24, 1), -2);
        Due.is("4: full and bad node", s.combine(0, 1, -1), -2);
        Due.is("4: full and bad kind", s.combine(3, 0, 1), -1);
        Due.is("4: nodes", s.nodes(), 24);
    }

    // Promise 5
    private static void squareNodes() {
        TapeSampler s = new TapeSampler();
        Due.is("5: without nodes", s.square(0), -3);
        s.parameter(2);
        Due.is("5: square", s.square(0), 1);
        Due.is("5: square of a square", s.square(1), 2);
        s.place(1, 2, -5);
        Due.is("5: value", s.valueOf(1, 1), 25);
        Due.is("5: value", s.valueOf(1, 2), 625);
        s.place(1, 2, 65537);
        Due.is("5: value wraps", s.valueOf(1, 1), 131073);
        s.place(1, 2, MIN);
        Due.is("5: value wraps", s.valueOf(1, 1), 0);
        for (int bad : new int[] {-1, 3, 24, MIN, MAX}) {
            Due.is("5: square(" + bad + ")", s.square(bad), -3);
        }
        Due.is("5: nodes after refusals", s.nodes(), 3);
        for (int node = 3; node < 24; node++) {
            Due.is("5: square", s.square(node - 1), node);
        }
        Due.is("5: full", s.square(0), -2);
        Due.is("5: full and bad node", s.square(24), -2);
        Due.is("5: full and bad node", s.square(-1), -2);
        Due.is("5: nodes", s.nodes(), 24);
    }

    // Promise 6
    private static void putTerms() {
        TapeSampler s = new TapeSampler();
        Due.is("6: without nodes", s.term(0, 1), -1);
        s.constant(100);
        s.constant(1);
        for (int bad : new int[] {-1, 2, 24, MIN, MAX}) {
            Due.is("6: node " + bad, s.term(bad, 1), -1);
            Due.is("6: node " + bad + " and bad weight", s.term(bad, 21), -1);
        }
        for (int bad : new int[] {-21, 21, MIN, MAX}) {
            Due.is("6: weight " + bad, s.term(0, bad), -2);
        }
        Due.is("6: terms after refusals", s.terms(), 0);
        int[] weights = {-20, 20, 0, 1, -1, 19, -19, 3};
        int[] sums = {-2000, 0, 0, 100, 0, 1900, 0, 300};
        for (int t = 0; t < 8; t++) {
            Due.is("6: weight " + weights[t], s.term(0, weights[t]), t + 1);
            Due.is("6: target", s.target(0), sums[t]);
        }
        Due.is("6: full", s.term(1, 1), -3);
        Due.is("6: full and bad weight", s.term(1, -21), -2);
        Due.is("6: full and bad node", s.term(2, 1), -1);
        Due.is("6: full and all bad", s.term(2, 21), -1);
        Due.is("6: terms", s.terms(), 8);
        Due.is("6: target after refusals", s.target(0), 300);
    }

    // Promise 7
    private static void clearModel() {
        TapeSampler s = placed();
        s.shift(7);
        Due.is("7: clear of nothing", s.clear(), 0);
        s.parameter(0);
        s.square(0);
        s.constant(5);
        s.term(1, 2);
        s.term(2, 3);
        Due.is("7: clear", s.clear(), 3);
        Due.is("7: nodes", s.nodes(), 0);
        Due.is("7: terms", s.terms(), 0);
        Due.is("7: live", s.live(), 0);
        Due.is("7: target", s.target(0), 0);
        Due.is("7: slope", s.slope(0, 0), 0);
        Due.is("7: value", s.valueOf(0, 2), 0);
        Due.is("7: term of an old node", s.term(0, 1), -1);
        for (int chain = 0; chain < 3; chain++) {
            for (int i = 0; i < 4; i++) {
                Due.is("7: position", s.position(chain, i), placedPosition(chain, i));
                Due.is("7: momentum", s.momentum(chain, i), placedMomentum(chain, i));
            }
        }
        Due.is("7: shift", s.shift(0), 7);
        Due.is("7: clear again", s.clear(), 0);
        for (int node = 0; node < 24; node++) {
            Due.is("7: numbers begin anew", s.constant(node), node);
        }
        for (int t = 1; t <= 8; t++) {
            Due.is("7: terms begin anew", s.term(t, 1), t);
        }
        Due.is("7: target of the new terms alone", s.target(0), 36);
        Due.is("7: clear of a full model", s.clear(), 24);
        Due.is("7: room again", s.parameter(0), 0);
        Due.is("7: room again", s.term(0, 1), 1);
    }

    // Promise 8
    private static void countNodes() {
        TapeSampler s = new TapeSampler();
        s.parameter(3);
        Due.is("8: nodes", s.nodes(), 1);
        s.constant(0);
        Due.is("8: nodes", s.nodes(), 2);
        s.combine(0, 0, 1);
        Due.is("8: nodes", s.nodes(), 3);
        s.square(2);
        Due.is("8: nodes", s.nodes(), 4);
        s.square(4);
        s.combine(3, 0, 0);
        s.parameter(-1);
        s.term(0, 1);
        Due.is("8: nodes after refusals and a term", s.nodes(), 4);
    }

    // Promise 9
    private static void countTerms() {
        TapeSampler s = new TapeSampler();
        s.parameter(3);
        s.constant(4);
        Due.is("9: terms", s.terms(), 0);
        s.term(0, 1);
        Due.is("9: terms", s.terms(), 1);
        s.term(0, 0);
        Due.is("9: terms, weight 0 too", s.terms(), 2);
        s.term(0, 40);
        s.term(2, 1);
        Due.is("9: terms after refusals", s.terms(), 2);
    }

    // Promise 10
    private static void placePositions() {
        TapeSampler s = new TapeSampler();
        for (int bad : BAD_CHAINS) {
            Due.is("10: chain " + bad, s.place(bad, 0, 1), -1);
            Due.is("10: chain " + bad + " and bad i", s.place(bad, 4, 1), -1);
        }
        for (int bad : BAD_PARAMETERS) {
            Due.is("10: i " + bad, s.place(0, bad, 1), -2);
            Due.is("10: i " + bad, s.place(2, bad, 1), -2);
        }
        for (int cell = 0; cell < 12; cell++) {
            Due.is("10: refusals set nothing", s.position(cell / 4, cell % 4), 0);
        }
        for (int cell = 0; cell < 12; cell++) {
            Due.is("10: place", s.place(cell / 4, cell % 4, 50 - cell * 9), 0);
        }
        for (int cell = 0; cell < 12; cell++) {
            Due.is("10: position", s.position(cell / 4, cell % 4), 50 - cell * 9);
            Due.is("10: momentum", s.momentum(cell / 4, cell % 4), 0);
        }
        s.place(1, 2, MIN);
        Due.is("10: place again", s.position(1, 2), MIN);
        s.place(1, 2, MAX);
        Due.is("10: place again", s.position(1, 2), MAX);
    }

    // Promise 11
    private static void pushMomenta() {
        TapeSampler s = new TapeSampler();
        for (int bad : BAD_CHAINS) {
            Due.is("11: chain " + bad, s.push(bad, 0, 1), -1);
            Due.is("11: chain " + bad + " and bad i", s.push(bad, -1, 1), -1);
        }
        for (int bad : BAD_PARAMETERS) {
            Due.is("11: i " + bad, s.push(0, bad, 1), -2);
            Due.is("11: i " + bad, s.push(2, bad, 1), -2);
        }
        for (int cell = 0; cell < 12; cell++) {
            Due.is("11: refusals set nothing", s.momentum(cell / 4, cell % 4), 0);
        }
        for (int cell = 0; cell < 12; cell++) {
            Due.is("11: push", s.push(cell / 4, cell % 4, cell * 7 - 40), 0);
        }
        for (int cell = 0; cell < 12; cell++) {
            Due.is("11: momentum", s.momentum(cell / 4, cell % 4), cell * 7 - 40);
            Due.is("11: position", s.position(cell / 4, cell % 4), 0);
        }
        s.push(1, 2, MIN);
        Due.is("11: push sets, it does not add", s.momentum(1, 2), MIN);
    }

    // Promise 12
    private static void setShift() {
        TapeSampler s = new TapeSampler();
        Due.is("12: shift", s.shift(20), 0);
        for (int bad : new int[] {-1, 21, 32, MIN, MAX}) {
            Due.is("12: shift(" + bad + ")", s.shift(bad), -1);
        }
        Due.is("12: refusals set nothing", s.shift(0), 20);
        Due.is("12: shift", s.shift(5), 0);
        Due.is("12: shift", s.shift(5), 5);
        Due.is("12: shift", s.shift(1), 5);
    }

    // Promise 13
    private static void readPositions() {
        TapeSampler s = placed();
        for (int cell = 0; cell < 12; cell++) {
            Due.is("13: position", s.position(cell / 4, cell % 4), placedPosition(cell / 4, cell % 4));
        }
        for (int bad : BAD_CHAINS) {
            Due.is("13: chain " + bad, s.position(bad, 0), 0);
        }
        for (int bad : BAD_PARAMETERS) {
            Due.is("13: i " + bad, s.position(0, bad), 0);
            Due.is("13: i " + bad, s.position(1, bad), 0);
        }
        Due.is("13: both bad", s.position(-1, 4), 0);
    }

    // Promise 14
    private static void readMomenta() {
        TapeSampler s = placed();
        for (int cell = 0; cell < 12; cell++) {
            Due.is("14: momentum", s.momentum(cell / 4, cell % 4), placedMomentum(cell / 4, cell % 4));
        }
        for (int bad : BAD_CHAINS) {
            Due.is("14: chain " + bad, s.momentum(bad, 0), 0);
        }
        for (int bad : BAD_PARAMETERS) {
            Due.is("14: i " + bad, s.momentum(0, bad), 0);
            Due.is("14: i " + bad, s.momentum(1, bad), 0);
        }
        Due.is("14: both bad", s.momentum(-1, 4), 0);
    }

    // Promise 15
    private static void values() {
        TapeSampler s = new TapeSampler();
        s.parameter(0);
        s.parameter(3);
        s.constant(10);
        s.combine(2, 0, 1);
        s.combine(1, 3, 2);
        s.square(4);
        s.place(0, 0, 4);
        s.place(0, 3, 5);
        s.place(2, 0, -1);
        s.place(2, 3, 2);
        int[] onFirst = {4, 5, 10, 20, 10, 100};
        int[] onLast = {-1, 2, 10, -2, -12, 144};
        int[] onMiddle = {0, 0, 10, 0, -10, 100};
        for (int node = 0; node < 6; node++) {
            Due.is("15: value on chain 0", s.valueOf(0, node), onFirst[node]);
            Due.is("15: value on chain 2", s.valueOf(2, node), onLast[node]);
            Due.is("15: value on chain 1", s.valueOf(1, node), onMiddle[node]);
        }
        for (int bad : BAD_CHAINS) {
            Due.is("15: chain " + bad, s.valueOf(bad, 2), 0);
        }
        for (int bad : new int[] {-1, 6, 23, 24, MIN, MAX}) {
            Due.is("15: node " + bad, s.valueOf(0, bad), 0);
        }
        s.clear();
        Due.is("15: a node that was taken away", s.valueOf(0, 2), 0);
    }

    // Promise 16
    private static void targets() {
        TapeSampler s = new TapeSampler();
        s.parameter(0);
        s.parameter(1);
        s.square(1);
        s.place(0, 0, 3);
        s.place(0, 1, 4);
        s.place(1, 0, MAX);
        s.place(1, 1, -2);
        Due.is("16: no terms", s.target(0), 0);
        s.term(2, -3);
        Due.is("16: one term", s.target(0), -48);
        s.term(0, 20);
        Due.is("16: two terms", s.target(0), 12);
        s.term(0, 20);
        Due.is("16: one node twice", s.target(0), 72);
        s.term(1, 0);
        Due.is("16: weight 0", s.target(0), 72);
        Due.is("16: wraps", s.target(1), -12 + 40 * MAX);
        Due.is("16: at 0", s.target(2), 0);
        for (int bad : BAD_CHAINS) {
            Due.is("16: chain " + bad, s.target(bad), 0);
        }
        s.constant(6);
        s.term(3, 1);
        for (int bad : BAD_CHAINS) {
            Due.is("16: chain " + bad + " with a constant", s.target(bad), 0);
        }
    }

    // Promise 17
    private static void slopes() {
        TapeSampler s = new TapeSampler();
        s.place(0, 0, 3);
        s.place(0, 1, 5);
        s.place(0, 2, -7);
        s.parameter(0);
        s.parameter(1);
        s.parameter(2);
        s.constant(11);
        s.combine(0, 0, 1);
        s.combine(1, 0, 1);
        s.combine(2, 1, 2);
        s.square(6);
        s.combine(2, 0, 0);
        int[][] due = {
            {1, 0, 0, 0}, {0, 1, 0, 0}, {0, 0, 1, 0}, {0, 0, 0, 0}, {1, 1, 0, 0}, {1, -1, 0, 0},
            {0, -7, 5, 0}, {0, 490, -350, 0}, {6, 0, 0, 0}};
        int[] sum = new int[4];
        int[] weights = {1, -1, 0, -20, 3, 7, -20, 20};
        for (int t = 0; t < 8; t++) {
            s.term(t + 1, weights[t]);
            for (int i = 0; i < 4; i++) {
                sum[i] += weights[t] * due[t + 1][i];
                Due.is("17: slope along " + i, s.slope(0, i), sum[i]);
            }
        }
        Due.is("17: at 0", s.slope(1, 2), -1);
        for (int bad : BAD_CHAINS) {
            Due.is("17: chain " + bad, s.slope(bad, 1), 0);
        }
        for (int bad : BAD_PARAMETERS) {
            Due.is("17: i " + bad, s.slope(0, bad), 0);
        }
        s.place(0, 1, MAX);
        s.place(0, 2, MAX);
        s.clear();
        s.parameter(1);
        s.square(0);
        s.term(1, 19);
        Due.is("17: wraps", s.slope(0, 1), -38);
        s.clear();
        s.constant(2);
        s.combine(2, 0, 0);
        s.term(1, 5);
        for (int i = 0; i < 4; i++) {
            Due.is("17: of constants alone, along " + i, s.slope(0, i), 0);
        }
        s.clear();
        s.parameter(3);
        for (int node = 1; node < 24; node++) {
            s.combine(0, node - 1, node - 1);
        }
        s.term(23, -3);
        Due.is("17: of 24 nodes", s.slope(2, 3), -3 << 23);
    }

    // Promise 18
    private static void drifts() {
        TapeSampler s = new TapeSampler();
        for (int i = 0; i < 4; i++) {
            s.parameter(i);
            s.term(i, i + 1);
            s.push(1, i, 10 - 7 * i);
        }
        Due.is("18: drift", s.drift(1), 10 + 2 * 3 - 3 * 4 - 4 * 11);
        Due.is("18: without momenta", s.drift(0), 0);
        s.shift(2);
        Due.is("18: the shift plays no part", s.drift(1), -40);
        s.square(2);
        s.term(4, -1);
        s.place(1, 2, 6);
        Due.is("18: at the chain's positions", s.drift(1), -40 - 12 * -4);
        s.push(1, 3, MIN);
        Due.is("18: wraps", s.drift(1), 10 + 6 + (3 - 12) * -4);
        for (int bad : BAD_CHAINS) {
            Due.is("18: chain " + bad, s.drift(bad), 0);
        }
    }

    // Promise 19
    private static void targetsAt() {
        TapeSampler s = new TapeSampler();
        for (int i = 0; i < 4; i++) {
            s.parameter(i);
            s.place(0, i, i + 2);
            s.place(1, i, -i);
        }
        s.combine(2, 0, 1);
        s.combine(2, 2, 3);
        s.combine(1, 4, 5);
        s.term(6, 2);
        s.constant(1000);
        s.term(7, 1);
        Due.is("19: target", s.target(0), 1000 + 2 * (6 - 20));
        Due.is("19: along 0", s.targetAt(0, 0, 10), 1000 + 2 * (30 - 20));
        Due.is("19: along 1", s.targetAt(0, 1, -10), 1000 + 2 * (-20 - 20));
        Due.is("19: along 2", s.targetAt(0, 2, 0), 1000 + 2 * 6);
        Due.is("19: along 3", s.targetAt(0, 3, 1), 1000 + 2 * (6 - 4));
        Due.is("19: where it is", s.targetAt(0, 3, 5), s.target(0));
        Due.is("19: wraps", s.targetAt(0, 0, MAX), 1000 + 2 * (3 * MAX - 20));
        Due.is("19: chain 1", s.targetAt(1, 2, 4), 1000 + 2 * 12);
        for (int i = 0; i < 4; i++) {
            Due.is("19: the position stays", s.position(0, i), i + 2);
            Due.is("19: the position stays", s.position(1, i), -i);
        }
        Due.is("19: the target stays", s.target(0), 972);
        for (int bad : BAD_CHAINS) {
            Due.is("19: chain " + bad, s.targetAt(bad, 0, 1), 0);
        }
        for (int bad : BAD_PARAMETERS) {
            Due.is("19: i " + bad, s.targetAt(0, bad, 1), 0);
        }
    }

    // Promise 20
    private static void leapOnce() {
        TapeSampler s = coupled();
        // At (3, 5) the slopes are (5, 3); after the first half the momenta are (6, 1).
        Due.is("20: leap", s.leap(0, 1), 9 * 6);
        Due.is("20: x0", s.position(0, 0), 9);
        Due.is("20: x1", s.position(0, 1), 6);
        // At (9, 6) the slopes are (6, 9).
        Due.is("20: m0", s.momentum(0, 0), 12);
        Due.is("20: m1", s.momentum(0, 1), 10);
        Due.is("20: x2", s.position(0, 2), 0);
        Due.is("20: m2", s.momentum(0, 2), 0);
        Due.is("20: another chain's position", s.position(1, 0), 0);
        Due.is("20: another chain's momentum", s.momentum(1, 0), 0);
        TapeSampler one = coupled();
        for (int step = 0; step < 40; step++) {
            one.leap(0, 1);
        }
        TapeSampler many = coupled();
        Due.is("20: 40 leaps at once", many.leap(0, 40), one.target(0) & 255);
        for (int i = 0; i < 4; i++) {
            Due.is("20: 40 leaps at once", many.position(0, i), one.position(0, i));
            Due.is("20: 40 leaps at once", many.momentum(0, i), one.momentum(0, i));
        }
        many.turn(0);
        many.leap(0, 40);
        Due.is("20: and back", many.position(0, 0), 3);
        Due.is("20: and back", many.position(0, 1), 5);
        Due.is("20: and back", many.momentum(0, 0), -1);
        Due.is("20: and back", many.momentum(0, 1), 2);
    }

    // Promise 20
    private static void leapRounding() {
        TapeSampler s = new TapeSampler();
        s.parameter(0);
        s.parameter(1);
        s.term(0, -1);
        s.term(1, 1);
        s.term(1, 2);
        s.shift(1);
        s.leap(2, 1);
        Due.is("20: -1 >> 1 is -1", s.momentum(2, 0), -2);
        Due.is("20: -1 >> 1 is -1", s.position(2, 0), -1);
        Due.is("20: the sum is shifted, 3 >> 1", s.momentum(2, 1), 2);
        Due.is("20: the sum is shifted, 3 >> 1", s.position(2, 1), 1);
        s.shift(20);
        s.leap(1, 1);
        Due.is("20: -1 >> 20 is -1", s.momentum(1, 0), -2);
        Due.is("20: 3 >> 20 is 0", s.momentum(1, 1), 0);
        s.shift(0);
        s.leap(0, 1);
        Due.is("20: no shift", s.momentum(0, 0), -2);
        Due.is("20: no shift", s.momentum(0, 1), 6);
        Due.is("20: no shift", s.position(0, 1), 3);
        s.push(0, 1, MAX);
        s.leap(0, 1);
        Due.is("20: the momentum wraps", s.momentum(0, 1), MIN + 5);
        Due.is("20: the position wraps", s.position(0, 1), MIN + 5);
    }

    // Promise 20
    private static void leapAnswers() {
        TapeSampler s = new TapeSampler();
        s.parameter(0);
        s.term(0, 1);
        int[] spots = {0, 1, 255, 256, 257, -1, -256, -257, MIN, MAX};
        int[] due = {0, 1, 255, 0, 1, 255, 0, 255, 0, 255};
        for (int n = 0; n < spots.length; n++) {
            s.place(1, 0, spots[n]);
            Due.is("20: no leap at " + spots[n], s.leap(1, 0), due[n]);
            Due.is("20: no leap, the position stays", s.position(1, 0), spots[n]);
            Due.is("20: no leap, the momentum stays", s.momentum(1, 0), 0);
        }
        s.place(1, 0, 0);
        Due.is("20: the target at the new positions", s.leap(1, 1), 1);
        TapeSampler empty = placed();
        Due.is("20: without a model", empty.leap(2, 3), 0);
        for (int i = 0; i < 4; i++) {
            int due2 = placedPosition(2, i) + 3 * placedMomentum(2, i);
            Due.is("20: without a model", empty.position(2, i), due2);
            Due.is("20: without a model", empty.momentum(2, i), placedMomentum(2, i));
        }
    }

    // Promise 20
    private static void leapRefusals() {
        TapeSampler s = coupled();
        int[] before = Picture.of(s);
        for (int bad : BAD_CHAINS) {
            Due.is("20: chain " + bad, s.leap(bad, 1), -1);
            Due.is("20: chain " + bad + " and bad steps", s.leap(bad, 41), -1);
        }
        for (int bad : new int[] {-1, 41, 42, MIN, MAX}) {
            Due.is("20: steps " + bad, s.leap(0, bad), -2);
        }
        Picture.same("20: a refused leap", before, s);
    }

    // Promise 21
    private static void turns() {
        TapeSampler s = placed();
        s.push(1, 0, MIN);
        s.push(1, 1, 0);
        Due.is("21: turn", s.turn(1), 0);
        Due.is("21: least int", s.momentum(1, 0), MIN);
        Due.is("21: zero", s.momentum(1, 1), 0);
        Due.is("21: m2", s.momentum(1, 2), -placedMomentum(1, 2));
        Due.is("21: m3", s.momentum(1, 3), -placedMomentum(1, 3));
        for (int i = 0; i < 4; i++) {
            Due.is("21: position", s.position(1, i), placedPosition(1, i));
            Due.is("21: chain 0 stays", s.momentum(0, i), placedMomentum(0, i));
            Due.is("21: chain 2 stays", s.momentum(2, i), placedMomentum(2, i));
        }
        int[] before = Picture.of(s);
        for (int bad : BAD_CHAINS) {
            Due.is("21: chain " + bad, s.turn(bad), -1);
        }
        Picture.same("21: a refused turn", before, s);
    }

    // Promise 22
    private static void copies() {
        TapeSampler s = placed();
        Due.is("22: copy", s.copy(2, 0), 0);
        for (int i = 0; i < 4; i++) {
            Due.is("22: position", s.position(0, i), placedPosition(2, i));
            Due.is("22: momentum", s.momentum(0, i), placedMomentum(2, i));
            Due.is("22: from stays", s.position(2, i), placedPosition(2, i));
            Due.is("22: from stays", s.momentum(2, i), placedMomentum(2, i));
            Due.is("22: the third stays", s.position(1, i), placedPosition(1, i));
            Due.is("22: the third stays", s.momentum(1, i), placedMomentum(1, i));
        }
        s.place(0, 1, 77);
        Due.is("22: the chains stay apart", s.position(2, 1), placedPosition(2, 1));
        int[] before = Picture.of(s);
        Due.is("22: to itself", s.copy(1, 1), 0);
        for (int bad : BAD_CHAINS) {
            Due.is("22: from " + bad, s.copy(bad, 0), -1);
            Due.is("22: to " + bad, s.copy(0, bad), -1);
            Due.is("22: both " + bad, s.copy(bad, bad), -1);
        }
        Picture.same("22: a copy to itself or refused", before, s);
    }

    // Promise 23
    private static void liveNodes() {
        TapeSampler s = new TapeSampler();
        s.parameter(0);
        s.parameter(1);
        s.combine(0, 0, 1);
        s.square(2);
        s.combine(2, 3, 2);
        s.constant(4);
        s.combine(1, 5, 0);
        Due.is("23: without terms", s.live(), 0);
        s.term(1, 1);
        Due.is("23: a parameter alone", s.live(), 1);
        s.term(1, 1);
        Due.is("23: the same node twice", s.live(), 1);
        s.term(6, 1);
        Due.is("23: a difference with its parts", s.live(), 4);
        s.term(3, 1);
        Due.is("23: a square over a sum", s.live(), 6);
        s.term(4, 1);
        Due.is("23: shared parts count once", s.live(), 7);
        s.square(4);
        Due.is("23: what uses a live node is not live", s.live(), 7);
        Due.is("23: asked again", s.live(), 7);
        s.clear();
        s.constant(1);
        s.constant(1);
        s.term(1, 1);
        Due.is("23: after clear", s.live(), 1);
    }

    // Promise 23
    private static void liveEdges() {
        TapeSampler s = new TapeSampler();
        s.parameter(3);
        s.constant(0);
        s.parameter(1);
        s.parameter(0);
        s.constant(MAX);
        s.constant(MIN);
        s.term(1, 1);
        Due.is("23: a constant's number is no node", s.live(), 1);
        s.term(3, 1);
        Due.is("23: a parameter's number is no node", s.live(), 2);
        s.term(4, 1);
        s.term(5, 1);
        Due.is("23: the ends of the ints as constants", s.live(), 4);
        s.clear();
        s.parameter(0);
        for (int node = 1; node < 24; node++) {
            s.combine(1, node - 1, node - 1);
        }
        s.term(0, 1);
        Due.is("23: the first of 24", s.live(), 1);
        s.term(22, 1);
        Due.is("23: all but the last of 24", s.live(), 23);
        s.term(23, 1);
        Due.is("23: all 24, though the values are 0", s.live(), 24);
    }

    // Promise 24
    private static void orderAndLimits() {
        TapeSampler s = new TapeSampler();
        s.parameter(0);
        s.square(0);
        s.constant(3);
        s.term(1, 0);
        Due.is("24: weight 0", s.live(), 2);
        s.term(2, 0);
        Due.is("24: weight 0", s.live(), 3);
        Due.is("24: target", s.target(0), 0);
        s.term(0, 2);
        s.shift(4);
        s.place(1, 0, 6);
        s.push(2, 3, -8);
        int[] before = Picture.of(s);
        s.parameter(4);
        s.combine(3, 0, 0);
        s.combine(0, 0, 3);
        s.square(3);
        s.term(3, 1);
        s.term(0, 21);
        s.place(3, 0, 1);
        s.place(1, 4, 1);
        s.push(-1, 0, 1);
        s.push(1, -1, 1);
        s.shift(21);
        s.leap(3, 1);
        s.leap(0, 41);
        s.turn(3);
        s.copy(1, 3);
        s.copy(-1, 1);
        Picture.same("24: a refused call", before, s);
    }

    private static void questionsChangeNothing() {
        TapeSampler s = coupled();
        int[] before = Picture.of(s);
        for (int chain = -1; chain <= 3; chain++) {
            for (int i = -1; i <= 4; i++) {
                s.position(chain, i);
                s.momentum(chain, i);
                s.valueOf(chain, i);
                s.slope(chain, i);
                s.targetAt(chain, i, 99);
            }
            s.target(chain);
            s.drift(chain);
        }
        s.nodes();
        s.terms();
        s.live();
        Picture.same("a question", before, s);
    }

    private static int placedPosition(int chain, int i) {
        return 100 * chain + 10 * i + 3;
    }

    private static int placedMomentum(int chain, int i) {
        return 7 - 50 * chain - 5 * i;
    }

    /** No model; a number of its own in every position and momentum. */
    private static TapeSampler placed() {
        TapeSampler s = new TapeSampler();
        for (int chain = 0; chain < 3; chain++) {
            for (int i = 0; i < 4; i++) {
                s.place(chain, i, placedPosition(chain, i));
                s.push(chain, i, placedMomentum(chain, i));
            }
        }
        return s;
    }

    /** The target x0 * x1, so that each slope needs the other position. */
    private static TapeSampler coupled() {
        TapeSampler s = new TapeSampler();
        s.parameter(0);
        s.parameter(1);
        s.combine(2, 0, 1);
        s.term(2, 1);
        s.place(0, 0, 3);
        s.place(0, 1, 5);
        s.push(0, 0, 1);
        s.push(0, 1, -2);
        return s;
    }
}
