import java.util.ArrayList;
import java.util.List;

/** Runs of later calls; each begins another way, so that no first question hides what was left over. */
final class Later {
    static final List<List<Call>> RUNS = List.of(asking(), moving(), building(), clearing());
    static final int LONGEST = RUNS.stream().mapToInt(List::size).max().getAsInt();

    private Later() {
    }

    private static List<Call> asking() {
        List<Call> run = new ArrayList<>();
        askAll(run);
        moveChains(run);
        askChains(run);
        return run;
    }

    private static List<Call> moving() {
        List<Call> run = new ArrayList<>();
        moveChains(run);
        askAll(run);
        return run;
    }

    private static List<Call> building() {
        List<Call> run = new ArrayList<>();
        build(run);
        askAll(run);
        return run;
    }

    private static List<Call> clearing() {
        List<Call> run = new ArrayList<>();
        add(run, "clear");
        build(run);
        askAll(run);
        return run;
    }

    private static void askAll(List<Call> run) {
        add(run, "nodes");
        add(run, "terms");
        add(run, "live");
        for (int chain = 0; chain < 3; chain++) {
            for (int node = 0; node <= 24; node++) {
                add(run, "valueOf", chain, node);
            }
            for (int i = 0; i < 4; i++) {
                add(run, "slope", chain, i);
                add(run, "targetAt", chain, i, 6);
            }
            add(run, "drift", chain);
        }
        askChains(run);
    }

    private static void askChains(List<Call> run) {
        for (int chain = 0; chain < 3; chain++) {
            for (int i = 0; i < 4; i++) {
                add(run, "position", chain, i);
                add(run, "momentum", chain, i);
            }
            add(run, "target", chain);
        }
    }

    private static void moveChains(List<Call> run) {
        add(run, "leap", 0, 3);
        add(run, "shift", 2);
        add(run, "leap", 1, 1);
        add(run, "turn", 2);
        add(run, "leap", 2, 2);
        add(run, "copy", 0, 1);
        add(run, "place", 1, 2, -8);
        add(run, "push", 2, 1, 9);
    }

    private static void build(List<Call> run) {
        add(run, "parameter", 1);
        add(run, "constant", 7);
        add(run, "combine", 1, 0, 1);
        add(run, "square", 0);
        add(run, "term", 3, -3);
        add(run, "term", 0, 20);
    }

    private static void add(List<Call> run, String name, int... args) {
        run.add(new Call(name, args));
    }
}
