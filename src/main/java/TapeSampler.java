/** A small model language with exact slopes, and chains of states that move along them. */
public final class TapeSampler {
    private static final int CHAINS = 3;
    private static final int PARAMETERS = 4;
    private static final int CELLS = CHAINS * PARAMETERS;
    private static final int MAX_NODES = 24;
    private static final int MAX_TERMS = 8;
    private static final int MAX_WEIGHT = 20;
    private static final int MAX_SHIFT = 20;
    private static final int MAX_STEPS = 40;
    private static final int LOW_BITS = 255;

    // The first three are the kinds that combine takes from its caller.
    private static final int SUM = 0;
    private static final int DIFFERENCE = 1;
    private static final int PRODUCT = 2;
    private static final int SQUARE = 3;
    private static final int PARAMETER = 4;
    private static final int CONSTANT = 5;

    // The operands are node numbers, but for PARAMETER (its i) and CONSTANT (its c).
    private final int[] kinds = new int[MAX_NODES];
    private final int[] firstOperands = new int[MAX_NODES];
    private final int[] secondOperands = new int[MAX_NODES];
    private int nodeCount;

    private final int[] termNodes = new int[MAX_TERMS];
    private final int[] termWeights = new int[MAX_TERMS];
    private int termCount;

    private final int[] positions = new int[CELLS];
    private final int[] momenta = new int[CELLS];
    private int slopeShift;

    // Working space: filled anew by each call that reads it, as no method may make an array.
    private final int[] point = new int[PARAMETERS];
    private final int[] values = new int[MAX_NODES];
    private final int[] slopes = new int[MAX_NODES];
    private final boolean[] reached = new boolean[MAX_NODES];

    public TapeSampler() {
    }

    public int parameter(int i) {
        if (!isParameter(i)) {
            return -1;
        }
        if (nodeCount >= MAX_NODES) {
            return -2;
        }
        return addNode(PARAMETER, i, 0);
    }

    public int constant(int c) {
        if (nodeCount >= MAX_NODES) {
            return -2;
        }
        return addNode(CONSTANT, c, 0);
    }

    public int combine(int kind, int a, int b) {
        if (kind < SUM || kind > PRODUCT) {
            return -1;
        }
        if (nodeCount >= MAX_NODES) {
            return -2;
        }
        if (!isNode(a) || !isNode(b)) {
            return -3;
        }
        return addNode(kind, a, b);
    }

    public int square(int a) {
        if (nodeCount >= MAX_NODES) {
            return -2;
        }
        if (!isNode(a)) {
            return -3;
        }
        return addNode(SQUARE, a, a);
    }

    public int term(int node, int weight) {
        if (!isNode(node)) {
            return -1;
        }
        if (weight < -MAX_WEIGHT || weight > MAX_WEIGHT) {
            return -2;
        }
        if (termCount >= MAX_TERMS) {
            return -3;
        }
        termNodes[termCount] = node;
        termWeights[termCount] = weight;
        termCount++;
        return termCount;
    }

    public int clear() {
        int before = nodeCount;
        nodeCount = 0;
        termCount = 0;
        return before;
    }

    public int nodes() {
        return nodeCount;
    }

    public int terms() {
        return termCount;
    }

    public int place(int chain, int i, int x) {
        if (!isChain(chain)) {
            return -1;
        }
        if (!isParameter(i)) {
            return -2;
        }
        positions[chain * PARAMETERS + i] = x;
        return 0;
    }

    public int push(int chain, int i, int m) {
        if (!isChain(chain)) {
            return -1;
        }
        if (!isParameter(i)) {
            return -2;
        }
        momenta[chain * PARAMETERS + i] = m;
        return 0;
    }

    public int shift(int shift) {
        if (shift < 0 || shift > MAX_SHIFT) {
            return -1;
        }
        int before = slopeShift;
        slopeShift = shift;
        return before;
    }

    public int position(int chain, int i) {
        if (!isChain(chain) || !isParameter(i)) {
            return 0;
        }
        return positions[chain * PARAMETERS + i];
    }

    public int momentum(int chain, int i) {
        if (!isChain(chain) || !isParameter(i)) {
            return 0;
        }
        return momenta[chain * PARAMETERS + i];
    }

    public int valueOf(int chain, int node) {
        if (!isChain(chain) || !isNode(node)) {
            return 0;
        }
        goToChain(chain);
        findValues();
        return values[node];
    }

    public int target(int chain) {
        if (!isChain(chain)) {
            return 0;
        }
        goToChain(chain);
        findValues();
        return weighTerms(values);
    }

    public int slope(int chain, int i) {
        if (!isChain(chain) || !isParameter(i)) {
            return 0;
        }
        goToChain(chain);
        findValues();
        findSlopes(i);
        return weighTerms(slopes);
    }

    public int drift(int chain) {
        if (!isChain(chain)) {
            return 0;
        }
        goToChain(chain);
        findValues();
        int sum = 0;
        for (int i = 0; i < PARAMETERS; i++) {
            findSlopes(i);
            sum += momenta[chain * PARAMETERS + i] * weighTerms(slopes);
        }
        return sum;
    }

    public int targetAt(int chain, int i, int x) {
        if (!isChain(chain) || !isParameter(i)) {
            return 0;
        }
        goToChain(chain);
        point[i] = x;
        findValues();
        return weighTerms(values);
    }

    public int leap(int chain, int steps) {
        if (!isChain(chain)) {
            return -1;
        }
        if (steps < 0 || steps > MAX_STEPS) {
            return -2;
        }
        for (int step = 0; step < steps; step++) {
            kick(chain);
            glide(chain);
            kick(chain);
        }
        goToChain(chain);
        findValues();
        return weighTerms(values) & LOW_BITS;
    }

    public int turn(int chain) {
        if (!isChain(chain)) {
            return -1;
        }
        for (int i = 0; i < PARAMETERS; i++) {
            momenta[chain * PARAMETERS + i] = -momenta[chain * PARAMETERS + i];
        }
        return 0;
    }

    public int copy(int from, int to) {
        if (!isChain(from) || !isChain(to)) {
            return -1;
        }
        for (int i = 0; i < PARAMETERS; i++) {
            positions[to * PARAMETERS + i] = positions[from * PARAMETERS + i];
            momenta[to * PARAMETERS + i] = momenta[from * PARAMETERS + i];
        }
        return 0;
    }

    public int live() {
        reachTermNodes();
        int count = 0;
        // A node is made of earlier ones only, so going down meets each after all that use it.
        for (int node = nodeCount - 1; node >= 0; node--) {
            if (reached[node]) {
                count++;
                reachOperands(node);
            }
        }
        return count;
    }

    private static boolean isChain(int chain) {
        return chain >= 0 && chain < CHAINS;
    }

    private static boolean isParameter(int i) {
        return i >= 0 && i < PARAMETERS;
    }

    private boolean isNode(int node) {
        return node >= 0 && node < nodeCount;
    }

    private int addNode(int kind, int first, int second) {
        int node = nodeCount;
        kinds[node] = kind;
        firstOperands[node] = first;
        secondOperands[node] = second;
        nodeCount++;
        return node;
    }

    private void goToChain(int chain) {
        for (int i = 0; i < PARAMETERS; i++) {
            point[i] = positions[chain * PARAMETERS + i];
        }
    }

    private void findValues() {
        for (int node = 0; node < nodeCount; node++) {
            values[node] = valueFromOperands(node);
        }
    }

    private int valueFromOperands(int node) {
        int first = firstOperands[node];
        int second = secondOperands[node];
        switch (kinds[node]) {
            case SUM:
                return values[first] + values[second];
            case DIFFERENCE:
                return values[first] - values[second];
            case PRODUCT:
                return values[first] * values[second];
            case SQUARE:
                return values[first] * values[first];
            case PARAMETER:
                return point[first];
            default:
                return first;
        }
    }

    /** Needs the values of the nodes at the same point. */
    private void findSlopes(int i) {
        for (int node = 0; node < nodeCount; node++) {
            slopes[node] = slopeFromOperands(node, i);
        }
    }

    private int slopeFromOperands(int node, int i) {
        int first = firstOperands[node];
        int second = secondOperands[node];
        switch (kinds[node]) {
            case SUM:
                return slopes[first] + slopes[second];
            case DIFFERENCE:
                return slopes[first] - slopes[second];
            case PRODUCT:
                return slopes[first] * values[second] + values[first] * slopes[second];
            case SQUARE:
                return 2 * values[first] * slopes[first];
            case PARAMETER:
                return first == i ? 1 : 0;
            default:
                return 0;
        }
    }

    private int weighTerms(int[] perNode) {
        int sum = 0;
        for (int t = 0; t < termCount; t++) {
            sum += termWeights[t] * perNode[termNodes[t]];
        }
        return sum;
    }

    private void kick(int chain) {
        goToChain(chain);
        findValues();
        for (int i = 0; i < PARAMETERS; i++) {
            findSlopes(i);
            momenta[chain * PARAMETERS + i] += weighTerms(slopes) >> slopeShift;
        }
    }

    private void glide(int chain) {
        for (int i = 0; i < PARAMETERS; i++) {
            positions[chain * PARAMETERS + i] += momenta[chain * PARAMETERS + i];
        }
    }

    private void reachTermNodes() {
        for (int node = 0; node < MAX_NODES; node++) {
            reached[node] = false;
        }
        for (int t = 0; t < termCount; t++) {
            reached[termNodes[t]] = true;
        }
    }

    private void reachOperands(int node) {
        if (kinds[node] <= SQUARE) {
            reached[firstOperands[node]] = true;
            reached[secondOperands[node]] = true;
        }
    }
}
