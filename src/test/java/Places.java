import java.util.ArrayList;
import java.util.List;
import java.util.Set;
import java.util.TreeSet;

/** What each place of each call takes, as the document tells it: from the least to the greatest. */
final class Places {
    /** A call with good numbers, one of its places, and what that takes. */
    record Place(Call call, int[] good, int at, long least, long greatest) {
        int[] with(int number) {
            int[] numbers = good.clone();
            numbers[at] = number;
            return numbers;
        }

        /** The first numbers that are not taken, and the least and the greatest int. */
        Set<Integer> wrong() {
            Set<Integer> wrong = new TreeSet<>();
            for (long number : new long[] {least - 1, greatest + 1, Integer.MIN_VALUE, Integer.MAX_VALUE}) {
                if ((number < least || number > greatest) && number == (int) number) {
                    wrong.add((int) number);
                }
            }
            return wrong;
        }

        /** The last numbers that are taken. */
        Set<Integer> taken() {
            Set<Integer> taken = new TreeSet<>();
            if (least <= greatest) {
                taken.add((int) least);
                taken.add((int) greatest);
            }
            return taken;
        }
    }

    private final Scene scene;
    private final int p;
    private final List<Place> all = new ArrayList<>();

    private Places(Scene scene) {
        this.scene = scene;
        p = scene.naive.p;
    }

    static List<Place> of(Scene scene) {
        Places places = new Places(scene);
        for (int n = 1; n <= scene.naive.fields(); n++) {
            places.fields(n);
        }
        places.curves();
        for (int curve = 0; curve < Math.max(1, Math.min(2, scene.odd)); curve++) {
            places.onCurves(curve);
            places.onClasses(curve);
        }
        return places.all;
    }

    private static long[] span(long least, long greatest) {
        return new long[] {least, greatest};
    }

    private static int[] good(int... numbers) {
        return numbers;
    }

    private void add(Call call, int[] good, long[]... spans) {
        for (int at = 0; at < spans.length; at++) {
            all.add(new Place(call, good, at, spans[at][0], spans[at][1]));
        }
    }

    /** Behind a place that takes nothing (a CURVE where there is none) no other one is looked at. */
    private void addBehind(Call call, int[] good, long[] first, long[]... rest) {
        all.add(new Place(call, good, 0, first[0], first[1]));
        for (int at = 0; at < rest.length && first[0] <= first[1]; at++) {
            all.add(new Place(call, good, at + 1, rest[at][0], rest[at][1]));
        }
    }

    private void fields(int n) {
        long[] fields = span(1, scene.naive.fields());
        long[] numbers = span(0, scene.naive.power(p, n) - 1);
        add(Call.SIZE, good(n), fields);
        add(Call.MODULUS, good(n), fields);
        add(Call.PLUS, good(n, 1, 2), fields, numbers, numbers);
        add(Call.TIMES, good(n, 1, 2), fields, numbers, numbers);
        // 0 is refused too, but with STATE.
        add(Call.OVER, good(n, 1), fields, numbers);
        add(Call.RAISE, good(n, 1, 2), fields, numbers, span(0, Integer.MAX_VALUE));
        add(Call.SIGN, good(n, 1), fields, numbers);
        add(Call.TURNS, good(n, 1), fields, numbers);
        add(Call.TRACE, good(n, 1), fields, numbers);
        add(Call.FORMS, good(n, 1, 2, 1), fields, numbers, numbers, numbers);
    }

    private void curves() {
        long[] kinds = span(0, 2);
        long[] f = span(scene.naive.power(p, 3), scene.naive.power(p, 7) - 1);
        long[] anyT = span(Integer.MIN_VALUE, Integer.MAX_VALUE);
        int some = scene.naive.curvePolynomial(5, 9);
        // A KIND that is not MOVED takes any t; the KIND itself is tried with a t that MOVED takes.
        add(Call.CURVE, good(0, some, 0), kinds, f, anyT);
        add(Call.CURVE, good(1, some, 0), kinds, f, anyT);
        add(Call.CURVE, good(2, some, 0), kinds, f, span(0, p - 1));
        add(Call.CURVE, good(2, scene.knotted(), 0), kinds, f, span(0, p - 1));
        add(Call.BOUND, good(1), span(1, 2));
        add(Call.BEST, good(3, scene.knotted(), 9), span(3, 6), span(0, 1000000), span(1, 100));
        add(Call.TOLD, good(0), span(0, 3));
    }

    private void onCurves(int curve) {
        long[] curves = span(0, scene.many() - 1);
        long[] fields = span(1, scene.naive.fields());
        int genus = scene.many() > 0 && scene.degree(curve) > 4 ? 2 : 1;
        addBehind(Call.ABOUT, good(curve, 1), curves, span(0, 5));
        for (int n = 1; n <= scene.naive.fields(); n++) {
            long[] numbers = span(0, scene.naive.power(p, n) - 1);
            addBehind(Call.VALUE, good(curve, n, 1), curves, fields, numbers);
        }
        addBehind(Call.COUNT, good(curve, 1), curves, fields);
        addBehind(Call.BEYOND, good(curve, 1), curves, fields);
        addBehind(Call.SHARE, good(curve, 1), curves, span(0, 2 * genus));
        addBehind(Call.FURTHER, good(curve, 2), curves, span(1, 12));
        addBehind(Call.WHOLE, good(curve), curves);
        addBehind(Call.SURFACE, good(curve, 0, 1), curves, curves, fields);
    }

    private void onClasses(int curve) {
        long[] odd = span(0, scene.odd - 1);
        long[] any = span(0, Integer.MAX_VALUE);
        long[] listed = span(0, scene.odd > 0 ? scene.make().classes(curve) - 1 : -1);
        addBehind(Call.IS_CLASS, good(curve, 1, 0), odd, any, any);
        addBehind(Call.CLASSES, good(curve), odd);
        // What is beyond the last one is NONE, not BAD.
        addBehind(Call.CLASS_AT, good(curve, 0, 0), odd, any, span(0, 1));
        addBehind(Call.ADD, good(curve, 0, 0), odd, listed, listed);
        addBehind(Call.MINUS, good(curve, 0), odd, listed);
        addBehind(Call.ORDER, good(curve, 0), odd, listed);
    }
}
