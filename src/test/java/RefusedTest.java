import java.util.Arrays;
import java.util.EnumSet;
import java.util.LinkedHashMap;
import java.util.Map;

/**
 * "Refused, and nothing changes but knot()": each place of each call, with the last numbers that are
 * taken, the first ones that are not, and the least and the greatest int; and behind each refused
 * call, all that can be asked is asked again.
 */
public final class RefusedTest {
    private static final int BAD = FieldCounts.BAD, STATE = FieldCounts.STATE;
    private static final int FULL = FieldCounts.FULL, NONE = FieldCounts.NONE;
    private static final int LEAST = Integer.MIN_VALUE, GREATEST = Integer.MAX_VALUE;
    private static final int[] NO_PRIMES = {-13, -3, -1, 0, 1, 2, 4, 6, 8, 9, 10, 12, 14, 15, 17, 343,
        3 + (1 << 16), LEAST, GREATEST};

    private final Scene scene;
    private final Map<String, Long> untouched;

    private RefusedTest(Scene scene) {
        this.scene = scene;
        untouched = Scene.stateOf(scene.make());
    }

    public static void main(String[] args) {
        for (int p : Naive.PRIMES) {
            new RefusedTest(new Scene(p, 0, 0)).check();
            new RefusedTest(new Scene(p, 2, 1)).check();
            new RefusedTest(new Scene(p, 4, 4)).check();
        }
        Checks.finish();
    }

    private void check() {
        theScene();
        places();
        allPlacesAtOnce();
        primes();
        ofZero();
        curves();
    }

    /** Else a state that nothing could change would be compared. */
    private void theScene() {
        Checks.due(scene.name() + "CURVES", untouched.get("told 2"), scene.many());
        Checks.holds(scene.name() + "a knot", untouched.get("knot") > 0);
        Checks.holds(scene.name() + "a trace", untouched.get("traced") > 0 || scene.many() == 0);
    }

    private void places() {
        EnumSet<Call> met = EnumSet.of(Call.PRIME, Call.KNOT, Call.TRACED);
        for (Places.Place place : Places.of(scene)) {
            met.add(place.call());
            long refusal = place.call().refusal();
            for (int number : place.wrong()) {
                refused(refusal, place.call(), place.with(number));
            }
            for (int number : place.taken()) {
                int[] numbers = place.with(number);
                long answer = place.call().ask(scene.make(), numbers);
                Checks.holds(label(place.call(), numbers) + " is taken", answer != refusal);
            }
        }
        Checks.due("calls met", met.size(), Call.values().length);
    }

    private void allPlacesAtOnce() {
        for (Call call : Call.values()) {
            for (int number : new int[] {LEAST, -1, GREATEST}) {
                int[] numbers = new int[call.places];
                Arrays.fill(numbers, number);
                if (call.places > 0) {
                    refused(call.refusal(), call, numbers);
                }
            }
        }
    }

    private void primes() {
        for (int p : NO_PRIMES) {
            refused(BAD, Call.PRIME, p);
        }
    }

    /** "STATE: of 0", and BAD is before it. */
    private void ofZero() {
        for (Call call : new Call[] {Call.OVER, Call.TURNS}) {
            for (int n = 1; n <= scene.naive.fields(); n++) {
                refused(STATE, call, n, 0);
            }
            for (int n : new int[] {0, -1, scene.naive.fields() + 1, LEAST, GREATEST}) {
                refused(BAD, call, n, 0);
            }
        }
    }

    /** Nothing changes but knot(); BAD does not change that either; the first of BAD, STATE, FULL. */
    private void curves() {
        int p = scene.naive.p;
        int square = (int) scene.naive.product(p + 1, p + 1);
        int f = (int) scene.naive.product(scene.naive.product(square, p), 2);
        int some = scene.naive.curvePolynomial(4, 3);
        for (int kind = 0; kind < 3; kind++) {
            refusedWithKnot(STATE, p + 1, kind, f, p - 1);
            if (scene.many() == 8) {
                refusedWithKnot(FULL, NONE, kind, some, p - 1);
            }
        }
        refused(BAD, Call.CURVE, -1, f, 0);
        refused(BAD, Call.CURVE, 3, f, 0);
        refused(BAD, Call.CURVE, 2, f, p);
        refused(BAD, Call.CURVE, 2, f, -1);
    }

    private String label(Call call, int[] numbers) {
        return scene.name() + call + Arrays.toString(numbers);
    }

    private void refused(long answer, Call call, int... numbers) {
        refused(untouched, answer, call, numbers);
    }

    private void refusedWithKnot(long answer, long knot, int... numbers) {
        Map<String, Long> due = new LinkedHashMap<>(untouched);
        due.put("knot", knot);
        refused(due, answer, Call.CURVE, numbers);
    }

    /** On an object of which nothing has been asked yet, and on one of which all has been. */
    private void refused(Map<String, Long> due, long answer, Call call, int[] numbers) {
        String label = label(call, numbers);
        FieldCounts cold = scene.make();
        Checks.due(label, call.ask(cold, numbers), answer);
        same(label, due, Scene.stateOf(cold));
        FieldCounts warm = scene.make();
        same("before " + label, untouched, Scene.stateOf(warm));
        Checks.due(label + " again", call.ask(warm, numbers), answer);
        same(label + " again", due, Scene.stateOf(warm));
    }

    private static void same(String label, Map<String, Long> due, Map<String, Long> state) {
        for (Map.Entry<String, Long> entry : due.entrySet()) {
            String name = entry.getKey();
            if (!entry.getValue().equals(state.get(name))) {
                Checks.due("after " + label + " " + name, state.get(name), entry.getValue());
                return;
            }
        }
        Checks.due("after " + label + " what is told", state.size(), due.size());
    }
}
