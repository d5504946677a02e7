/** The edges that the document names for leaps: promise 20, and the shift in its use. */
public final class LeapEdgeTest {
    private static final int MIN = Edge.MIN;
    private static final int MAX = Edge.MAX;
    // Of the state FULL on chains 0 .. 2, worked out apart: positions, momenta and answer.
    private static final int[][] FULL_AFTER_1 = {
        {8919692, -65854146, -39954408, -29592409, 42997482, -54416417, -100602392, -4242428, 138},
        {-36686244, -53941128, 38006380, 54745888, 5249830, -59298900, 49031403, 109716845, 146},
        {9205991, 21113359, 22865228, -50684842, -47699980, 35916993, -11649907, -57409609, 12}};
    private static final int[][] FULL_AFTER_40 = {
        {-1292785545, 746673293, 1079811803, 87572847, 68241628, -418969054, -451575627, 123391894, 114},
        {1172619785, 745003811, 1003388381, -219060289, -418773457, -503919413, -5036950, -465262070, 196},
        {-1070827223, -240512549, -2055370097, 1150378873, -405690998, 66639957, 146126205, 648459394, 56}};

    public static void main(String[] args) {
        chainNotGood();
        stepsNotGood();
        noSteps();
        oneStepOfFullModel();
        mostStepsOfFullModel();
        emptyModelGlides();
        otherChainsStay();
        lowBits();
        shiftOfZero();
        shiftOfTwenty();
        roundingDown();
        slopesBeforeAllMomenta();
        Due.end();
    }

    private static void chainNotGood() {
        for (State state : State.values()) {
            for (int bad : Edge.CHAINS_NOT_GOOD) {
                for (int steps : new int[] {0, 1, 40}) {
                    Edge.answersAndChangesNothing("20: -1 if chain is not good", state, -1, "leap", bad, steps);
                }
            }
        }
    }

    private static void stepsNotGood() {
        for (State state : State.values()) {
            for (int bad : new int[] {-1, 41, 42, MIN, MAX}) {
                for (int chain = 0; chain < 3; chain++) {
                    Edge.answersAndChangesNothing("20: -2 if steps is not in 0 .. 40", state, -2, "leap", chain, bad);
                }
            }
        }
    }

    private static void noSteps() {
        for (int chain = 0; chain < 3; chain++) {
            int due = State.FULL.make().target(chain) & 255;
            Edge.answersAndChangesNothing("20: 0 steps are good", State.FULL, due, "leap", chain, 0);
            Edge.answersAndChangesNothing("20: 0 steps are good", State.NO_MODEL, 0, "leap", chain, 0);
        }
    }

    private static void oneStepOfFullModel() {
        for (int chain = 0; chain < 3; chain++) {
            leapsTo(chain, 1, FULL_AFTER_1[chain]);
        }
    }

    private static void mostStepsOfFullModel() {
        for (int chain = 0; chain < 3; chain++) {
            leapsTo(chain, 40, FULL_AFTER_40[chain]);
        }
    }

    private static void leapsTo(int chain, int steps, int[] due) {
        TapeSampler s = State.FULL.make();
        String call = "20: leap(" + chain + ", " + steps + ")";
        Due.is(call, s.leap(chain, steps), due[8]);
        for (int i = 0; i < 4; i++) {
            Due.is(call + ", x" + i, s.position(chain, i), due[i]);
            Due.is(call + ", m" + i, s.momentum(chain, i), due[4 + i]);
        }
    }

    private static void emptyModelGlides() {
        for (State state : new State[] {State.NO_MODEL, State.CLEARED, State.NO_TERMS}) {
            for (int steps : new int[] {0, 1, 39, 40}) {
                TapeSampler s = state.make();
                Due.is("20: without terms", s.leap(2, steps), 0);
                for (int i = 0; i < 4; i++) {
                    int due = state.position(2, i) + steps * state.momentum(2, i);
                    Due.is("20: without terms, position", s.position(2, i), due);
                    Due.is("20: without terms, momentum", s.momentum(2, i), state.momentum(2, i));
                }
            }
        }
    }

    private static void otherChainsStay() {
        State state = State.FULL;
        for (int chain = 0; chain < 3; chain++) {
            TapeSampler s = state.make();
            s.leap(chain, 40);
            for (int cell = 0; cell < 12; cell++) {
                if (cell / 4 != chain) {
                    Due.is("20: another chain's position", s.position(cell / 4, cell % 4), state.position(cell / 4, cell % 4));
                    Due.is("20: another chain's momentum", s.momentum(cell / 4, cell % 4), state.momentum(cell / 4, cell % 4));
                }
            }
            Due.is("20: nodes", s.nodes(), 24);
            Due.is("20: terms", s.terms(), 8);
            Due.is("20: shift", s.shift(0), state.shift());
        }
    }

    private static void lowBits() {
        int[] targets = {0, 1, 127, 128, 255, 256, 511, 512, -1, -128, -255, -256, -257, MIN, MIN + 1, MAX};
        int[] due = {0, 1, 127, 128, 255, 0, 255, 0, 255, 128, 1, 0, 255, 0, 1, 255};
        for (int n = 0; n < targets.length; n++) {
            TapeSampler s = new TapeSampler();
            s.constant(targets[n]);
            s.term(0, 1);
            Due.is("20: the low 8 bits of " + targets[n], s.leap(0, 0), due[n]);
            Due.is("20: the low 8 bits of " + targets[n], s.leap(2, 40), due[n]);
        }
        TapeSampler s = new TapeSampler();
        s.parameter(0);
        s.term(0, 1);
        s.place(1, 0, 255);
        Due.is("20: at the new positions", s.leap(1, 1), 0);
    }

    /** The target c * x0, whose slope is c. */
    private static TapeSampler sloped(int c) {
        TapeSampler s = new TapeSampler();
        s.parameter(0);
        s.constant(c);
        s.combine(2, 0, 1);
        s.term(2, 1);
        return s;
    }

    private static void leapsBy(int slope, int shift, int kick) {
        TapeSampler s = sloped(slope);
        s.shift(shift);
        s.leap(0, 1);
        Due.is("20: " + slope + " >> " + shift + ", position", s.position(0, 0), kick);
        Due.is("20: " + slope + " >> " + shift + ", momentum", s.momentum(0, 0), 2 * kick);
    }

    private static void shiftOfZero() {
        for (int slope : new int[] {0, 1, -1, MIN, MAX}) {
            leapsBy(slope, 0, slope);
        }
    }

    private static void shiftOfTwenty() {
        leapsBy(MAX, 20, 2047);
        leapsBy(MIN, 20, -2048);
        leapsBy(1 << 20, 20, 1);
        leapsBy((1 << 20) - 1, 20, 0);
        leapsBy(-(1 << 20), 20, -1);
        leapsBy(-(1 << 20) - 1, 20, -2);
        leapsBy(-1, 20, -1);
        leapsBy(1, 20, 0);
        leapsBy(0, 20, 0);
    }

    private static void roundingDown() {
        leapsBy(-1, 1, -1);
        leapsBy(-2, 1, -1);
        leapsBy(-3, 1, -2);
        leapsBy(3, 1, 1);
        leapsBy(7, 3, 0);
        leapsBy(8, 3, 1);
        leapsBy(-7, 3, -1);
        leapsBy(-8, 3, -1);
        leapsBy(-9, 3, -2);
    }

    private static void slopesBeforeAllMomenta() {
        TapeSampler s = new TapeSampler();
        s.parameter(0);
        s.parameter(3);
        s.combine(2, 0, 1);
        s.term(2, 1);
        s.place(1, 0, 2);
        s.place(1, 3, 3);
        // The slopes (3, 2) give the momenta (3, 2), the positions (5, 5), then the slopes (5, 5).
        Due.is("20: every mi, then every xi", s.leap(1, 1), 25);
        Due.is("20: x0", s.position(1, 0), 5);
        Due.is("20: x3", s.position(1, 3), 5);
        Due.is("20: with the slopes at the new positions, m0", s.momentum(1, 0), 8);
        Due.is("20: with the slopes at the new positions, m3", s.momentum(1, 3), 7);
    }
}
