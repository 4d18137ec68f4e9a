import java.util.Map;

/**
 * Promise 2 where much is there already: behind prime() an object of which all has been asked is like
 * a new one, but for THE TRACE and the KNOT, which only value() and curve() change.
 */
public final class PrimeTest {
    private static final int[][] CURVES = {{0, 0}, {2, 1}, {4, 4}};

    private PrimeTest() {
    }

    public static void main(String[] args) {
        for (int p : Naive.PRIMES) {
            for (int[] curves : CURVES) {
                Scene before = new Scene(p, curves[0], curves[1]);
                for (int other : Naive.PRIMES) {
                    none(before, other);
                    // Of other degrees than before in each place, where there are any.
                    others(before, new Scene(other, curves[1], curves[0]));
                }
            }
        }
        Checks.finish();
    }

    /** No CURVES, and all is BAD that is asked of one. */
    private static void none(Scene before, int other) {
        FieldCounts empty = new FieldCounts();
        empty.prime(other);
        FieldCounts used = before.make();
        Map<String, Long> state = Scene.stateOf(used);
        used.prime(other);
        same(before.name() + "to " + other, state, Scene.stateOf(used), Scene.stateOf(empty));
    }

    /** CURVES told behind it are as those of a new object. */
    private static void others(Scene before, Scene after) {
        FieldCounts used = before.make();
        long traced = Scene.stateOf(used).get("traced");
        Map<String, Long> due = Scene.stateOf(after.make());
        Map<String, Long> start = Map.of("traced", traced + due.get("traced"), "knot", due.get("knot"));
        String label = before.name() + "then " + after.name();
        same(label, start, Scene.stateOf(after.on(used)), due);
    }

    private static void same(String label, Map<String, Long> start, Map<String, Long> state,
            Map<String, Long> due) {
        for (String name : due.keySet()) {
            boolean stays = name.equals("traced") || name.equals("knot");
            Checks.due(label + " " + name, state.get(name), (stays ? start : due).get(name));
        }
    }
}
