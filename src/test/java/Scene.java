import java.util.LinkedHashMap;
import java.util.Map;

/**
 * A p and CURVES, those of odd degrees first, of all KINDS, with a KNOT and a trace: what a refused
 * call must leave as it is.
 */
final class Scene {
    final Naive naive;
    final int odd;
    final int even;
    private final int[][] curves;

    Scene(int p, int odd, int even) {
        naive = new Naive(p);
        this.odd = odd;
        this.even = even;
        curves = new int[odd + even][];
        for (int i = 0; i < curves.length; i++) {
            int degree = i < odd ? 3 + 2 * (i % 2) : 4 + 2 * (i % 2);
            curves[i] = new int[] {i % 3, naive.curvePolynomial(degree, i), i % p};
        }
    }

    int many() {
        return odd + even;
    }

    int degree(int curve) {
        return naive.degree(curves[curve][1]);
    }

    /** x x x: always with a KNOT. */
    int knotted() {
        return naive.power(naive.p, 3);
    }

    String name() {
        return naive.p + " with " + odd + " and " + even + ": ";
    }

    FieldCounts make() {
        return on(new FieldCounts());
    }

    /** Sets the scene on an object, whatever was there before: at most 11 calls. */
    FieldCounts on(FieldCounts x) {
        x.prime(naive.p);
        for (int[] curve : curves) {
            x.curve(curve[0], curve[1], curve[2]);
        }
        if (curves.length > 0) {
            x.value(curves.length - 1, 1, 0);
        }
        x.curve(0, knotted(), 0);
        return x;
    }

    /** All that can be asked without changing anything, by name: some 210 calls. */
    static Map<String, Long> stateOf(FieldCounts x) {
        Map<String, Long> state = new LinkedHashMap<>();
        state.put("knot", (long) x.knot());
        state.put("traced", x.traced());
        for (int what = 0; what < 4; what++) {
            state.put("told " + what, (long) x.told(what));
        }
        for (int n = 1; n <= 6; n++) {
            state.put("size " + n, (long) x.size(n));
            state.put("modulus " + n, (long) x.modulus(n));
        }
        state.put("times", (long) x.times(2, 8, 7));
        state.put("plus", (long) x.plus(2, 8, 7));
        for (int curve = 0; curve <= 8; curve++) {
            addCurve(state, x, curve);
        }
        return state;
    }

    private static void addCurve(Map<String, Long> state, FieldCounts x, int curve) {
        String of = " of " + curve;
        for (int what = 0; what < 6; what++) {
            state.put("about " + what + of, (long) x.about(curve, what));
        }
        for (int i = 0; i < 5; i++) {
            state.put("share " + i + of, (long) x.share(curve, i));
        }
        state.put("count 1" + of, (long) x.count(curve, 1));
        state.put("count 2" + of, (long) x.count(curve, 2));
        state.put("further" + of, x.further(curve, 12));
        state.put("whole" + of, (long) x.whole(curve));
        state.put("classes" + of, (long) x.classes(curve));
        state.put("u of 1" + of, (long) x.classAt(curve, 1, 0));
        state.put("v of 1" + of, (long) x.classAt(curve, 1, 1));
        state.put("add" + of, (long) x.add(curve, 1, 2));
        state.put("minus" + of, (long) x.minus(curve, 1));
        state.put("order" + of, (long) x.order(curve, 1));
    }
}
