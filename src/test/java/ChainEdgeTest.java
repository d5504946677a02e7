import java.util.List;

/** The edges that the document names for chains and shift: promises 10 to 14, 21 and 22. */
public final class ChainEdgeTest {
    private static final int MIN = Edge.MIN;
    private static final int MAX = Edge.MAX;
    private static final int[] ENDS = {0, 1, -1, MIN, MAX, MIN + 1, MAX - 1};

    public static void main(String[] args) {
        chainNotGood("10", "place");
        parameterNotGood("10", "place");
        eachCellAlone("10", "place", "position", "momentum");
        everyInt("10", "place", "position");
        chainNotGood("11", "push");
        parameterNotGood("11", "push");
        eachCellAlone("11", "push", "momentum", "position");
        everyInt("11", "push", "momentum");
        shiftNotGood();
        shiftGood();
        shiftLeavesTheRest();
        askedNotGood("13", "position");
        askedNotGood("14", "momentum");
        positionsGood();
        momentaGood();
        turnNotGood();
        turnChangesOneChain();
        turnOfTheEnds();
        copyNotGood();
        copyChangesOneChain();
        copyToItself();
        copyOfTheEnds();
        Due.end();
    }

    private static void chainNotGood(String promise, String setter) {
        String sentence = promise + ": -1 if chain is not good";
        for (State state : State.values()) {
            for (int bad : Edge.CHAINS_NOT_GOOD) {
                Edge.answersAndChangesNothing(sentence, state, -1, setter, bad, 0, 1000);
                Edge.answersAndChangesNothing(sentence, state, -1, setter, bad, 3, 1000);
            }
        }
        Edge.answers(promise + ": chain 0 is good", State.ORDINARY, 0, setter, 0, 0, 1000);
        Edge.answers(promise + ": chain 2 is good", State.ORDINARY, 0, setter, 2, 0, 1000);
    }

    private static void parameterNotGood(String promise, String setter) {
        String sentence = promise + ": -2 if i is not good";
        for (State state : State.values()) {
            for (int bad : Edge.PARAMETERS_NOT_GOOD) {
                for (int chain = 0; chain < 3; chain++) {
                    Edge.answersAndChangesNothing(sentence, state, -2, setter, chain, bad, 1000);
                }
            }
        }
        Edge.answers(promise + ": i 0 is good", State.ORDINARY, 0, setter, 1, 0, 1000);
        Edge.answers(promise + ": i 3 is good", State.ORDINARY, 0, setter, 1, 3, 1000);
    }

    private static void eachCellAlone(String promise, String setter, String asked, String other) {
        for (int cell = 0; cell < 12; cell++) {
            TapeSampler s = State.NEW.make();
            Due.is(promise + ": otherwise 0", new Call(setter, cell / 4, cell % 4, 1000).on(s), 0);
            for (int n = 0; n < 12; n++) {
                int due = n == cell ? 1000 : 0;
                Due.is(promise + ": one cell is set", new Call(asked, n / 4, n % 4).on(s), due);
                Due.is(promise + ": no " + other + " is set", new Call(other, n / 4, n % 4).on(s), 0);
            }
        }
    }

    private static void everyInt(String promise, String setter, String asked) {
        TapeSampler s = State.ORDINARY.make();
        for (int end : ENDS) {
            Due.is(promise + ": " + end, new Call(setter, 2, 3, end).on(s), 0);
            Due.is(promise + ": " + end + " is kept", new Call(asked, 2, 3).on(s), end);
        }
    }

    private static void shiftNotGood() {
        String sentence = "12: -1 if it is not in 0 .. 20";
        for (State state : State.values()) {
            for (int bad : new int[] {-1, 21, 22, 31, 32, MIN, MAX}) {
                Edge.answersAndChangesNothing(sentence, state, -1, "shift", bad);
            }
        }
    }

    private static void shiftGood() {
        TapeSampler s = new TapeSampler();
        Due.is("12: 0 is good", s.shift(0), 0);
        for (int shift = 1; shift <= 20; shift++) {
            Due.is("12: answers the one before", s.shift(shift), shift - 1);
        }
        Due.is("12: 20 again", s.shift(20), 20);
        Due.is("12: a refused shift", s.shift(21), -1);
        Due.is("12: the one before is the last good one", s.shift(0), 20);
        Due.is("12: 0 is the one before", s.shift(3), 0);
    }

    private static void shiftLeavesTheRest() {
        List<Call> calls = List.of(new Call("shift", 20), new Call("shift", State.FULL.shift()));
        Edge.changeNothing("12: there and back", State.FULL, calls);
    }

    private static void askedNotGood(String promise, String asked) {
        String sentence = promise + ": 0 if chain or i is not good";
        for (int bad : Edge.CHAINS_NOT_GOOD) {
            for (int i = 0; i < 4; i++) {
                Edge.answersAndChangesNothing(sentence, State.ORDINARY, 0, asked, bad, i);
            }
        }
        for (int bad : Edge.PARAMETERS_NOT_GOOD) {
            for (int chain = 0; chain < 3; chain++) {
                Edge.answersAndChangesNothing(sentence, State.ORDINARY, 0, asked, chain, bad);
            }
            Edge.answersAndChangesNothing(sentence, State.ORDINARY, 0, asked, bad == 4 ? 3 : -1, bad);
        }
    }

    private static void positionsGood() {
        for (int cell = 0; cell < 12; cell++) {
            int due = State.ORDINARY.position(cell / 4, cell % 4);
            Edge.answersAndChangesNothing("13: A position", State.ORDINARY, due, "position", cell / 4, cell % 4);
        }
    }

    private static void momentaGood() {
        for (int cell = 0; cell < 12; cell++) {
            int due = State.ORDINARY.momentum(cell / 4, cell % 4);
            Edge.answersAndChangesNothing("14: A momentum", State.ORDINARY, due, "momentum", cell / 4, cell % 4);
        }
    }

    private static void turnNotGood() {
        for (State state : State.values()) {
            for (int bad : Edge.CHAINS_NOT_GOOD) {
                Edge.answersAndChangesNothing("21: -1 if chain is not good", state, -1, "turn", bad);
            }
        }
    }

    private static void turnChangesOneChain() {
        State state = State.ORDINARY;
        for (int chain = 0; chain < 3; chain++) {
            TapeSampler s = state.make();
            Due.is("21: otherwise 0", s.turn(chain), 0);
            for (int cell = 0; cell < 12; cell++) {
                int before = state.momentum(cell / 4, cell % 4);
                int due = cell / 4 == chain ? -before : before;
                Due.is("21: All momenta of a chain", s.momentum(cell / 4, cell % 4), due);
                Due.is("21: no position", s.position(cell / 4, cell % 4), state.position(cell / 4, cell % 4));
            }
            Edge.changeNothing("21: turned twice", state, List.of(new Call("turn", chain), new Call("turn", chain)));
        }
    }

    private static void turnOfTheEnds() {
        int[] before = {MIN, MAX, 0, MIN + 1};
        int[] after = {MIN, MIN + 1, 0, MAX};
        TapeSampler s = new TapeSampler();
        for (int i = 0; i < 4; i++) {
            s.push(2, i, before[i]);
        }
        s.turn(2);
        for (int i = 0; i < 4; i++) {
            Due.is("21: the sign of " + before[i], s.momentum(2, i), after[i]);
        }
    }

    private static void copyNotGood() {
        String sentence = "22: -1 if one of them is not good";
        for (State state : State.values()) {
            for (int bad : Edge.CHAINS_NOT_GOOD) {
                for (int chain = 0; chain < 3; chain++) {
                    Edge.answersAndChangesNothing(sentence, state, -1, "copy", bad, chain);
                    Edge.answersAndChangesNothing(sentence, state, -1, "copy", chain, bad);
                }
                Edge.answersAndChangesNothing(sentence, state, -1, "copy", bad, bad);
            }
            Edge.answersAndChangesNothing(sentence, state, -1, "copy", -1, 3);
            Edge.answersAndChangesNothing(sentence, state, -1, "copy", 3, -1);
        }
    }

    private static void copyChangesOneChain() {
        State state = State.ORDINARY;
        for (int pair = 0; pair < 9; pair++) {
            int from = pair / 3;
            int to = pair % 3;
            TapeSampler s = state.make();
            Due.is("22: otherwise 0", s.copy(from, to), 0);
            for (int cell = 0; cell < 12; cell++) {
                int source = cell / 4 == to ? from : cell / 4;
                Due.is("22: positions of chain to", s.position(cell / 4, cell % 4), state.position(source, cell % 4));
                Due.is("22: momenta of chain to", s.momentum(cell / 4, cell % 4), state.momentum(source, cell % 4));
            }
        }
    }

    private static void copyToItself() {
        for (int chain = 0; chain < 3; chain++) {
            Edge.answersAndChangesNothing("22: a chain from itself", State.FULL, 0, "copy", chain, chain);
        }
    }

    private static void copyOfTheEnds() {
        TapeSampler s = new TapeSampler();
        s.place(0, 0, MIN);
        s.place(0, 3, MAX);
        s.push(0, 0, MAX);
        s.push(0, 3, MIN);
        s.copy(0, 2);
        Due.is("22: least position", s.position(2, 0), MIN);
        Due.is("22: greatest position", s.position(2, 3), MAX);
        Due.is("22: greatest momentum", s.momentum(2, 0), MAX);
        Due.is("22: least momentum", s.momentum(2, 3), MIN);
        s.leap(2, 1);
        Due.is("22: the chains stay apart", s.position(0, 0), MIN);
        Due.is("22: the copy moves", s.position(2, 0), -1);
    }
}
