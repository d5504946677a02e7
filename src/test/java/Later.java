import java.util.ArrayList;
import java.util.List;

/** Calls that ask for all of an object, then change all of it and ask again. */
final class Later {
    static final List<Call> CALLS = new ArrayList<>();

    static {
        askAll();
        add("shift", 2);
        add("leap", 0, 3);
        add("leap", 1, 1);
        add("leap", 2, 2);
        askChains();
        add("turn", 0);
        add("copy", 0, 1);
        askChains();
        changeModel();
        add("clear");
        changeModel();
    }

    private Later() {
    }

    private static void askAll() {
        add("nodes");
        add("terms");
        add("live");
        for (int chain = 0; chain < 3; chain++) {
            for (int node = 0; node <= 24; node++) {
                add("valueOf", chain, node);
            }
            for (int i = 0; i < 4; i++) {
                add("slope", chain, i);
                add("targetAt", chain, i, 6);
            }
            add("drift", chain);
        }
        askChains();
    }

    private static void askChains() {
        for (int chain = 0; chain < 3; chain++) {
            for (int i = 0; i < 4; i++) {
                add("position", chain, i);
                add("momentum", chain, i);
            }
            add("target", chain);
        }
    }

    private static void changeModel() {
        add("parameter", 1);
        add("constant", 7);
        add("combine", 1, 0, 1);
        add("square", 2);
        add("term", 3, -3);
        add("term", 0, 20);
        add("nodes");
        add("terms");
        add("live");
        add("target", 0);
        add("slope", 2, 1);
    }

    private static void add(String name, int... args) {
        CALLS.add(new Call(name, args));
    }
}
