import java.util.Arrays;

/** All that the questions tell of an object, to see that a call changed nothing. */
final class Picture {
    private Picture() {
    }

    /** Takes at most 120 calls of the object's 512. */
    static int[] of(TapeSampler s) {
        int[] seen = new int[200];
        int n = 0;
        int nodes = s.nodes();
        seen[n++] = nodes;
        seen[n++] = s.terms();
        seen[n++] = s.live();
        for (int chain = 0; chain < 3; chain++) {
            for (int i = 0; i < 4; i++) {
                seen[n++] = s.position(chain, i);
                seen[n++] = s.momentum(chain, i);
                seen[n++] = s.slope(chain, i);
            }
            seen[n++] = s.target(chain);
            for (int node = 0; node < nodes; node++) {
                seen[n++] = s.valueOf(chain, node);
            }
        }
        int shift = s.shift(0);
        s.shift(shift);
        seen[n++] = shift;
        return Arrays.copyOf(seen, n);
    }

    static void same(String what, int[] before, TapeSampler s) {
        Due.holds(what + " changes nothing", Arrays.equals(before, of(s)));
    }
}
