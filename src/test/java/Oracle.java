import java.math.BigInteger;
import java.util.ArrayList;
import java.util.HashSet;
import java.util.List;
import java.util.Set;

/**
 * The document a second time, by other means, so that one mistake is not made twice:
 * each value worked out without wrap and then cut to an int, a square taken as a product,
 * and slopes gathered from the target down to the parameters instead of up.
 */
final class Oracle {
    private record Node(char kind, int a, int b) {
    }

    private record Term(int node, int weight) {
    }

    private final List<Node> nodes = new ArrayList<>();
    private final List<Term> terms = new ArrayList<>();
    private final int[][] x = new int[3][4];
    private final int[][] m = new int[3][4];
    private int shift = 0;

    private static boolean within(int n, int low, int high) {
        return low <= n && n <= high;
    }

    private boolean isNode(int n) {
        return within(n, 0, nodes.size() - 1);
    }

    private int add(char kind, int a, int b) {
        nodes.add(new Node(kind, a, b));
        return nodes.size() - 1;
    }

    int parameter(int i) {
        return !within(i, 0, 3) ? -1 : nodes.size() == 24 ? -2 : add('x', i, 0);
    }

    int constant(int c) {
        return nodes.size() == 24 ? -2 : add('c', c, 0);
    }

    int combine(int kind, int a, int b) {
        if (!within(kind, 0, 2)) {
            return -1;
        }
        return nodes.size() == 24 ? -2 : !isNode(a) || !isNode(b) ? -3 : add("+-*".charAt(kind), a, b);
    }

    int square(int a) {
        return nodes.size() == 24 ? -2 : !isNode(a) ? -3 : add('*', a, a);
    }

    int term(int node, int weight) {
        if (!isNode(node)) {
            return -1;
        }
        if (!within(weight, -20, 20)) {
            return -2;
        }
        if (terms.size() == 8) {
            return -3;
        }
        terms.add(new Term(node, weight));
        return terms.size();
    }

    int clear() {
        int before = nodes.size();
        nodes.clear();
        terms.clear();
        return before;
    }

    int nodes() {
        return nodes.size();
    }

    int terms() {
        return terms.size();
    }

    int place(int chain, int i, int to) {
        return set(x, chain, i, to);
    }

    int push(int chain, int i, int to) {
        return set(m, chain, i, to);
    }

    private static int set(int[][] table, int chain, int i, int to) {
        if (!within(chain, 0, 2)) {
            return -1;
        }
        if (!within(i, 0, 3)) {
            return -2;
        }
        table[chain][i] = to;
        return 0;
    }

    int shift(int to) {
        if (!within(to, 0, 20)) {
            return -1;
        }
        int before = shift;
        shift = to;
        return before;
    }

    int position(int chain, int i) {
        return within(chain, 0, 2) && within(i, 0, 3) ? x[chain][i] : 0;
    }

    int momentum(int chain, int i) {
        return within(chain, 0, 2) && within(i, 0, 3) ? m[chain][i] : 0;
    }

    int valueOf(int chain, int node) {
        return within(chain, 0, 2) && isNode(node) ? values(x[chain])[node] : 0;
    }

    int target(int chain) {
        return within(chain, 0, 2) ? targetOver(x[chain]) : 0;
    }

    int slope(int chain, int i) {
        return within(chain, 0, 2) && within(i, 0, 3) ? slopesOver(x[chain])[i] : 0;
    }

    int drift(int chain) {
        if (!within(chain, 0, 2)) {
            return 0;
        }
        BigInteger sum = BigInteger.ZERO;
        int[] g = slopesOver(x[chain]);
        for (int i = 0; i < 4; i++) {
            sum = sum.add(big(m[chain][i]).multiply(big(g[i])));
        }
        return sum.intValue();
    }

    int targetAt(int chain, int i, int to) {
        if (!within(chain, 0, 2) || !within(i, 0, 3)) {
            return 0;
        }
        int[] there = x[chain].clone();
        there[i] = to;
        return targetOver(there);
    }

    int leap(int chain, int steps) {
        if (!within(chain, 0, 2)) {
            return -1;
        }
        if (!within(steps, 0, 40)) {
            return -2;
        }
        for (int step = 0; step < steps; step++) {
            pull(chain);
            for (int i = 0; i < 4; i++) {
                x[chain][i] = big(x[chain][i]).add(big(m[chain][i])).intValue();
            }
            pull(chain);
        }
        return Math.floorMod(targetOver(x[chain]), 256);
    }

    private void pull(int chain) {
        int[] g = slopesOver(x[chain]);
        for (int i = 0; i < 4; i++) {
            long part = Math.floorDiv((long) g[i], 1L << shift);
            m[chain][i] = big(m[chain][i]).add(BigInteger.valueOf(part)).intValue();
        }
    }

    int turn(int chain) {
        if (!within(chain, 0, 2)) {
            return -1;
        }
        for (int i = 0; i < 4; i++) {
            m[chain][i] = big(m[chain][i]).negate().intValue();
        }
        return 0;
    }

    int copy(int from, int to) {
        if (!within(from, 0, 2) || !within(to, 0, 2)) {
            return -1;
        }
        x[to] = x[from].clone();
        m[to] = m[from].clone();
        return 0;
    }

    int live() {
        Set<Integer> seen = new HashSet<>();
        for (Term term : terms) {
            reach(term.node(), seen);
        }
        return seen.size();
    }

    private void reach(int n, Set<Integer> seen) {
        Node node = nodes.get(n);
        if (seen.add(n) && "+-*".indexOf(node.kind()) >= 0) {
            reach(node.a(), seen);
            reach(node.b(), seen);
        }
    }

    private static BigInteger big(int n) {
        return BigInteger.valueOf(n);
    }

    private int[] values(int[] at) {
        int[] v = new int[nodes.size()];
        for (int n = 0; n < v.length; n++) {
            Node node = nodes.get(n);
            v[n] = switch (node.kind()) {
                case 'x' -> at[node.a()];
                case 'c' -> node.a();
                case '+' -> big(v[node.a()]).add(big(v[node.b()])).intValue();
                case '-' -> big(v[node.a()]).subtract(big(v[node.b()])).intValue();
                default -> big(v[node.a()]).multiply(big(v[node.b()])).intValue();
            };
        }
        return v;
    }

    private int targetOver(int[] at) {
        int[] v = values(at);
        BigInteger sum = BigInteger.ZERO;
        for (Term term : terms) {
            sum = sum.add(big(v[term.node()]).multiply(big(term.weight())));
        }
        return sum.intValue();
    }

    /** How much the target moves with each node, from the last node down to the parameters. */
    private int[] slopesOver(int[] at) {
        int[] v = values(at);
        int[] pull = new int[v.length];
        for (Term term : terms) {
            pull[term.node()] += term.weight();
        }
        int[] g = new int[4];
        for (int n = v.length - 1; n >= 0; n--) {
            Node node = nodes.get(n);
            switch (node.kind()) {
                case 'x' -> g[node.a()] += pull[n];
                case '+' -> {
                    pull[node.a()] += pull[n];
                    pull[node.b()] += pull[n];
                }
                case '-' -> {
                    pull[node.a()] += pull[n];
                    pull[node.b()] -= pull[n];
                }
                case '*' -> {
                    pull[node.a()] += pull[n] * v[node.b()];
                    pull[node.b()] += pull[n] * v[node.a()];
                }
                default -> {
                }
            }
        }
        return g;
    }
}
