import java.util.Arrays;
import java.util.stream.Collectors;

/** One call of TapeSampler by its name, so that tests can hold calls in lists. */
record Call(String name, int... args) {
    int on(TapeSampler s) {
        return switch (name) {
            case "parameter" -> s.parameter(args[0]);
            case "constant" -> s.constant(args[0]);
            case "combine" -> s.combine(args[0], args[1], args[2]);
            case "square" -> s.square(args[0]);
            case "term" -> s.term(args[0], args[1]);
            case "clear" -> s.clear();
            case "nodes" -> s.nodes();
            case "terms" -> s.terms();
            case "place" -> s.place(args[0], args[1], args[2]);
            case "push" -> s.push(args[0], args[1], args[2]);
            case "shift" -> s.shift(args[0]);
            case "position" -> s.position(args[0], args[1]);
            case "momentum" -> s.momentum(args[0], args[1]);
            case "valueOf" -> s.valueOf(args[0], args[1]);
            case "target" -> s.target(args[0]);
            case "slope" -> s.slope(args[0], args[1]);
            case "drift" -> s.drift(args[0]);
            case "targetAt" -> s.targetAt(args[0], args[1], args[2]);
            case "leap" -> s.leap(args[0], args[1]);
            case "turn" -> s.turn(args[0]);
            case "copy" -> s.copy(args[0], args[1]);
            case "live" -> s.live();
            default -> throw new IllegalArgumentException(name);
        };
    }

    @Override
    public String toString() {
        return name + Arrays.stream(args).mapToObj(Integer::toString).collect(Collectors.joining(", ", "(", ")"));
    }
}
