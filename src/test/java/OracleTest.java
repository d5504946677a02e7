import java.util.Random;

/** Runs of at most 512 mixed calls, good and bad, each answered by TapeSampler and by Oracle. */
public final class OracleTest {
    private static final int RUNS = 1500;
    private static final int CALLS = 512;
    private static final int MOST_PRINTED = 20;

    private final Random random;
    private final TapeSampler sampler = new TapeSampler();
    private final Oracle oracle = new Oracle();
    private final int run;

    private OracleTest(int run) {
        this.run = run;
        this.random = new Random(run);
    }

    public static void main(String[] args) {
        for (int run = 0; run < RUNS && Due.wrong() < MOST_PRINTED; run++) {
            OracleTest test = new OracleTest(run);
            for (int call = 0; call < CALLS && Due.wrong() < MOST_PRINTED; call++) {
                test.callOnce(call);
            }
        }
        Due.end();
    }

    private void callOnce(int call) {
        int dice = random.nextInt(100);
        if (dice < 25) {
            changeModel(call, dice);
        } else if (dice < 55) {
            changeChains(call, random.nextInt(7));
        } else {
            ask(call, random.nextInt(10));
        }
    }

    private void changeModel(int call, int dice) {
        int a = node();
        int b = node();
        int n = number();
        if (dice < 4) {
            int i = parameter();
            due(call, "parameter(" + i + ")", sampler.parameter(i), oracle.parameter(i));
        } else if (dice < 6) {
            due(call, "constant(" + n + ")", sampler.constant(n), oracle.constant(n));
        } else if (dice < 14) {
            int kind = around(3);
            due(call, "combine(" + kind + ", " + a + ", " + b + ")", sampler.combine(kind, a, b), oracle.combine(kind, a, b));
        } else if (dice < 18) {
            due(call, "square(" + a + ")", sampler.square(a), oracle.square(a));
        } else if (dice < 24) {
            int weight = random.nextInt(45) - 22;
            due(call, "term(" + a + ", " + weight + ")", sampler.term(a, weight), oracle.term(a, weight));
        } else if (random.nextInt(3) == 0) {
            due(call, "clear()", sampler.clear(), oracle.clear());
        }
    }

    private void changeChains(int call, int which) {
        int chain = chain();
        int i = parameter();
        int n = number();
        String place = "(" + chain + ", " + i + ", " + n + ")";
        switch (which) {
            case 0, 1 -> due(call, "place" + place, sampler.place(chain, i, n), oracle.place(chain, i, n));
            case 2 -> due(call, "push" + place, sampler.push(chain, i, n), oracle.push(chain, i, n));
            case 3 -> {
                int shift = random.nextInt(25) - 2;
                due(call, "shift(" + shift + ")", sampler.shift(shift), oracle.shift(shift));
            }
            case 4 -> {
                int steps = random.nextInt(8) == 0 ? random.nextInt(46) - 3 : random.nextInt(4);
                due(call, "leap(" + chain + ", " + steps + ")", sampler.leap(chain, steps), oracle.leap(chain, steps));
            }
            case 5 -> due(call, "turn(" + chain + ")", sampler.turn(chain), oracle.turn(chain));
            default -> {
                int to = chain();
                due(call, "copy(" + chain + ", " + to + ")", sampler.copy(chain, to), oracle.copy(chain, to));
            }
        }
    }

    private void ask(int call, int which) {
        int chain = chain();
        int i = parameter();
        String pair = "(" + chain + ", " + i + ")";
        switch (which) {
            case 0 -> due(call, "nodes()", sampler.nodes(), oracle.nodes());
            case 1 -> due(call, "terms()", sampler.terms(), oracle.terms());
            case 2 -> due(call, "position" + pair, sampler.position(chain, i), oracle.position(chain, i));
            case 3 -> due(call, "momentum" + pair, sampler.momentum(chain, i), oracle.momentum(chain, i));
            case 4 -> {
                int node = node();
                due(call, "valueOf(" + chain + ", " + node + ")", sampler.valueOf(chain, node), oracle.valueOf(chain, node));
            }
            case 5 -> due(call, "target(" + chain + ")", sampler.target(chain), oracle.target(chain));
            case 6 -> due(call, "slope" + pair, sampler.slope(chain, i), oracle.slope(chain, i));
            case 7 -> due(call, "drift(" + chain + ")", sampler.drift(chain), oracle.drift(chain));
            case 8 -> {
                int n = number();
                due(call, "targetAt(" + chain + ", " + i + ", " + n + ")", sampler.targetAt(chain, i, n), oracle.targetAt(chain, i, n));
            }
            default -> due(call, "live()", sampler.live(), oracle.live());
        }
    }

    private void due(int call, String text, int got, int want) {
        Due.is("run " + run + ", call " + (call + 1) + ": " + text, got, want);
    }

    private int chain() {
        return around(3);
    }

    private int parameter() {
        return around(4);
    }

    private int node() {
        return around(oracle.nodes());
    }

    /** Mostly 0 .. size - 1, at times just beside it or far off. */
    private int around(int size) {
        int dice = random.nextInt(40);
        if (dice == 0) {
            return -1;
        }
        if (dice == 1) {
            return size;
        }
        if (dice == 2) {
            return random.nextInt();
        }
        return random.nextInt(Math.max(size, 1));
    }

    /** Small numbers keep slopes readable; large ones make them wrap. */
    private int number() {
        return switch (random.nextInt(6)) {
            case 0 -> random.nextInt();
            case 1 -> random.nextBoolean() ? Integer.MAX_VALUE : Integer.MIN_VALUE;
            case 2 -> random.nextInt(200001) - 100000;
            default -> random.nextInt(21) - 10;
        };
    }
}
