/**
 * What the document says of all CURVES alike, tried with each f of p 3 and with some f of every other
 * p: FURTHER is COUNT, the sum of THE SHARE is how many CLASSES there are, no COUNT goes beyond the
 * bound, and a TWIST has as many points too few as its PLAIN CURVE has too many.
 */
public final class AlwaysTest {
    private static final int NONE = FieldCounts.NONE, STATE = FieldCounts.STATE;
    private static final int SAMPLES = 60;

    private final Naive naive;
    private final int p;
    private FieldCounts x;

    private AlwaysTest(int p) {
        naive = new Naive(p);
        this.p = p;
    }

    public static void main(String[] args) {
        AlwaysTest three = new AlwaysTest(3);
        for (int f = 27; f < 2187; f++) {
            three.curve(f, f % 3);
        }
        for (int p : Naive.PRIMES) {
            AlwaysTest some = new AlwaysTest(p);
            for (int seed = 0; seed < SAMPLES; seed++) {
                some.curve(sample(p, seed), seed % p);
            }
            some.best();
        }
        Checks.finish();
    }

    private static int sample(int p, int seed) {
        return new Naive(p).curvePolynomial(3 + seed % 4, 7 * seed + 1);
    }

    private void due(String call, long got, long want) {
        Checks.due(p + ": " + call, got, want);
    }

    private FieldCounts fresh() {
        FieldCounts fresh = new FieldCounts();
        fresh.prime(p);
        return fresh;
    }

    /** An f as a CURVE of each KIND, if it has no KNOT. */
    private void curve(int f, int t) {
        x = fresh();
        boolean knotted = naive.hasKnot(f);
        due("curve " + f, x.curve(0, f, 0), knotted ? STATE : 0);
        Checks.holds(p + ": knot of " + f, (x.knot() == NONE) != knotted);
        if (knotted) {
            return;
        }
        x.curve(1, f, 0);
        x.curve(2, f, t);
        for (int curve = 0; curve < 3; curve++) {
            further(curve);
            classes(curve);
            bound(curve);
        }
        twist();
    }

    private void further(int curve) {
        for (int n = 1; n <= naive.fields(); n++) {
            due("further " + x.about(curve, 1) + ", " + n, x.further(curve, n), x.count(curve, n));
        }
    }

    private void classes(int curve) {
        boolean odd = x.about(curve, 3) % 2 == 1;
        due("classes of " + x.about(curve, 1), x.classes(curve), odd ? x.whole(curve) : FieldCounts.BAD);
        Checks.holds(p + ": whole is above 0", x.whole(curve) > 0);
    }

    private void bound(int curve) {
        int away = Math.abs(x.count(curve, 1) - p - 1);
        Checks.holds(p + ": bound of " + x.about(curve, 1), away <= x.bound(x.about(curve, 4)));
    }

    /** D is no square in F(n) of an odd n, but one in those of an even n; t moves no point away. */
    private void twist() {
        for (int n = 1; n <= naive.fields(); n++) {
            int away = x.count(0, n) - naive.power(p, n) - 1;
            due("TWIST " + n, x.count(1, n), naive.power(p, n) + 1 + (n % 2 == 0 ? away : -away));
            due("MOVED " + n, x.count(2, n), x.count(1, n));
        }
    }

    /** The first one with the most points, by asking for each COUNT. */
    private void best() {
        for (int degree = 3; degree <= 6; degree++) {
            int first = naive.power(p, degree);
            for (int from = first; from <= 1000000 && from < first + 400; from += 100) {
                int best = NONE;
                int most = -1;
                for (int f = from; f < from + 100; f++) {
                    FieldCounts one = fresh();
                    boolean fits = one.curve(0, f, 0) == 0 && one.about(0, 3) == degree;
                    int points = fits ? one.count(0, 1) : -1;
                    best = points > most ? f : best;
                    most = Math.max(points, most);
                }
                due("best " + degree + ", " + from, fresh().best(degree, from, 100), best);
            }
        }
    }
}
