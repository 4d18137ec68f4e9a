/** Promises 13 to 24: curves. */
public final class CurvesTest {
    private static final int BAD = FieldCounts.BAD, STATE = FieldCounts.STATE;
    private static final int FULL = FieldCounts.FULL, NONE = FieldCounts.NONE, NO = FieldCounts.NO;

    private CurvesTest() {
    }

    public static void main(String[] args) {
        knotsOfAll(new Naive(3), 27, 729, 1);
        knotsOfAll(new Naive(3), 729, 2187, 11);
        knotsOfAll(new Naive(5), 125, 625, 3);
        knotsOfAll(new Naive(5), 3125, 15625, 997);
        for (int p : Naive.PRIMES) {
            Naive naive = new Naive(p);
            refusedCurves(naive);
            fullOfCurves(naive);
            squares(naive);
            counted(naive);
            bounds(naive);
            noSuchCurve(naive);
            best(naive);
        }
        bestRefused();
        knotOverPrimes();
        Checks.finish();
    }

    /** curve and knot, for each f from a number on. */
    private static void knotsOfAll(Naive naive, int from, int end, int step) {
        for (int f = from; f < end; f += step) {
            FieldCounts x = new FieldCounts();
            x.prime(naive.p);
            long knot = naive.knot(f);
            Checks.due("curve " + f, x.curve(0, f, 0), knot == 1 ? 0 : STATE);
            Checks.due("knot of " + f, x.knot(), knot == 1 ? NONE : knot);
            Checks.due("curves after " + f, x.told(2), knot == 1 ? 1 : 0);
            Checks.holds("squares and knots of " + f, naive.hasKnot(f) == (knot != 1));
        }
    }

    /** A KNOT that is known: f is u u w. */
    private static void squares(Naive naive) {
        int p = naive.p;
        for (int c = 0; c < p; c++) {
            int u = p * p + c;
            FieldCounts x = new FieldCounts();
            x.prime(p);
            int f = (int) naive.product(naive.product(u, u), p - 1);
            Checks.due("curve of a square", x.curve(c % 3, f, 1), STATE);
            Checks.due("its knot", x.knot(), u == p * p ? p * p * p : u);
        }
    }

    private static void refusedCurves(Naive naive) {
        int p = naive.p;
        int good = naive.curvePolynomial(3, 5);
        int knotted = p * p * p;
        FieldCounts x = new FieldCounts();
        x.prime(p);
        Checks.due("no knot at first", x.knot(), NONE);
        Checks.due("x x x", x.curve(0, knotted, 0), STATE);
        int knot = x.knot();
        Checks.due("its knot", knot, p == 3 ? 27 : p * p);
        for (int kind : new int[] {-1, 3, Integer.MIN_VALUE, Integer.MAX_VALUE}) {
            Checks.due("kind " + kind, x.curve(kind, good, 0), BAD);
        }
        int[] wrong = {p * p * p - 1, naive.power(p, 7), 0, -1, Integer.MIN_VALUE, Integer.MAX_VALUE};
        for (int f : wrong) {
            Checks.due("f " + f, x.curve(0, f, 0), BAD);
        }
        for (int t : new int[] {-1, p, Integer.MIN_VALUE, Integer.MAX_VALUE}) {
            Checks.due("t " + t, x.curve(2, good, t), BAD);
            Checks.due("t before a knot " + t, x.curve(2, knotted, t), BAD);
        }
        Checks.due("BAD leaves the knot", x.knot(), knot);
        Checks.due("no curve yet", x.told(2), 0);
        Checks.due("t is not looked at: PLAIN", x.curve(0, good, -77), 0);
        Checks.due("a curve makes it NONE", x.knot(), NONE);
        Checks.due("t is not looked at: TWIST", x.curve(1, good, 99), 1);
        Checks.due("t of PLAIN", x.about(0, 2), 0);
        Checks.due("t of TWIST", x.about(1, 2), 0);
        Checks.due("the last t", x.curve(2, good, p - 1), 2);
        Checks.due("t of MOVED", x.about(2, 2), p - 1);
        int last = naive.power(p, 7) - 1;
        while (naive.hasKnot(last)) {
            last--;
        }
        Checks.due("the last f", x.curve(0, last, 0), 3);
        Checks.due("its degree", x.about(3, 3), 6);
    }

    private static void fullOfCurves(Naive naive) {
        int p = naive.p;
        FieldCounts x = new FieldCounts();
        x.prime(p);
        for (int i = 0; i < 8; i++) {
            Checks.due("curve " + i, x.curve(i % 3, naive.curvePolynomial(3 + i % 4, i), 1), i);
        }
        int good = naive.curvePolynomial(4, 1);
        Checks.due("BAD before FULL", x.curve(0, 1, 0), BAD);
        Checks.due("STATE before FULL", x.curve(0, p * p * p * p, 0), STATE);
        Checks.due("the knot, though full", x.knot(), p * p * p);
        Checks.due("full", x.curve(0, good, 0), FULL);
        Checks.due("FULL makes it NONE", x.knot(), NONE);
        Checks.due("eight of them", x.told(2), 8);
        Checks.due("no ninth", x.about(8, 0), BAD);
        for (int i = 0; i < 8; i++) {
            Checks.due("kind of " + i, x.about(i, 0), i % 3);
            Checks.due("f of " + i, x.about(i, 1), naive.curvePolynomial(3 + i % 4, i));
        }
        x.prime(p);
        Checks.due("room again", x.curve(1, good, 0), 0);
    }

    private static void knotOverPrimes() {
        FieldCounts x = new FieldCounts();
        Checks.due("x x x", x.curve(0, 27, 0), STATE);
        x.prime(13);
        Checks.due("only curve() changes the knot", x.knot(), 27);
        Checks.due("best() does not", x.best(3, 2197, 100) > 0 ? x.knot() : 0, 27);
    }

    /** about, value, count, beyond, share, further, whole, surface, of some CURVES of each degree. */
    private static void counted(Naive naive) {
        int[][] curves = new int[8][];
        for (int i = 0; i < 8; i++) {
            int degree = 3 + i % 4;
            curves[i] = new int[] {(i + i / 4) % 3, naive.curvePolynomial(degree, i + 3), i % naive.p};
        }
        Bench bench = new Bench(naive.p, curves);
        int[][] counts = new int[8][naive.fields() + 1];
        for (int n = 1; n <= naive.fields(); n++) {
            int[][] table = naive.table(n);
            for (int i = 0; i < 8; i++) {
                counts[i][n] = countedIn(naive, bench, i, curves[i], n, table);
            }
            if (table.length <= 125) {
                surfaces(naive, bench, curves, n, table);
            }
        }
        for (int i = 0; i < 8; i++) {
            aboutIt(naive, bench, i, curves[i]);
            shares(naive, bench, i, curves[i], counts[i]);
        }
    }

    private static int countedIn(Naive naive, Bench bench, int i, int[] curve, int n, int[][] table) {
        String at = naive.p + ": " + i + ", " + n;
        long polynomial = bench.on().about(i, 5);
        for (int x = 0; x < table.length; x++) {
            int value = naive.curveValue(curve[0], curve[1], curve[2], x, table);
            Checks.due("value " + at + ", " + x, bench.on().value(i, n, x), value);
            Checks.due("its polynomial " + at, naive.valueOf(polynomial, x, table), value);
        }
        for (int x : new int[] {-1, table.length, Integer.MIN_VALUE, Integer.MAX_VALUE}) {
            Checks.due("value " + at + ", " + x, bench.on().value(i, n, x), BAD);
        }
        int points = naive.points(curve[0], curve[1], curve[2], table);
        Checks.due("count " + at, bench.on().count(i, n), points);
        Checks.due("further " + at, bench.on().further(i, n), points);
        int beyond = naive.beyond(curve[0], curve[1], table);
        Checks.due("beyond " + at, bench.on().beyond(i, n), beyond);
        return points;
    }

    private static void aboutIt(Naive naive, Bench bench, int i, int[] curve) {
        String at = naive.p + ": " + i;
        int degree = naive.degree(curve[1]);
        Checks.due("kind " + at, bench.on().about(i, 0), curve[0]);
        Checks.due("f " + at, bench.on().about(i, 1), curve[1]);
        Checks.due("t " + at, bench.on().about(i, 2), curve[0] == 2 ? curve[2] : 0);
        Checks.due("degree " + at, bench.on().about(i, 3), degree);
        Checks.due("genus " + at, bench.on().about(i, 4), degree < 5 ? 1 : 2);
        Checks.due("degree of its own " + at, naive.degree(bench.on().about(i, 5)), degree);
        Checks.due("about -1 " + at, bench.on().about(i, -1), BAD);
        Checks.due("about 6 " + at, bench.on().about(i, 6), BAD);
    }

    private static void shares(Naive naive, Bench bench, int i, int[] curve, int[] counts) {
        int p = naive.p;
        int genus = naive.degree(curve[1]) < 5 ? 1 : 2;
        int one = counts[1] - p - 1;
        int[] due = {1, one, p};
        if (genus == 2) {
            due = new int[] {1, one, (counts[2] - p * p - 1 + one * one) / 2, p * one, p * p};
        }
        int sum = 0;
        for (int k = 0; k < due.length; k++) {
            Checks.due("share " + p + ": " + i + ", " + k, bench.on().share(i, k), due[k]);
            sum += due[k];
        }
        Checks.due("share -1", bench.on().share(i, -1), NO);
        Checks.due("share beyond", bench.on().share(i, due.length), NO);
        Checks.due("share far", bench.on().share(i, Integer.MAX_VALUE), NO);
        Checks.due("whole " + p + ": " + i, bench.on().whole(i), sum);
        for (int n = 1; n <= 12; n++) {
            String at = p + ": " + i + ", " + n;
            Checks.due("further " + at, bench.on().further(i, n), further(p, due, n));
        }
        for (int n : new int[] {0, 13, -1, Integer.MIN_VALUE, Integer.MAX_VALUE}) {
            Checks.due("further " + n, bench.on().further(i, n), -1L);
        }
        int away = Math.abs(one);
        Checks.holds("the bound " + p + ": " + i, away <= bench.on().bound(genus));
    }

    /** By the n-th power of a matrix that has those numbers: r(n) is the sum of its diagonal. */
    private static long further(int p, int[] s, int n) {
        int size = s.length - 1;
        long[][] power = new long[size][size];
        for (int i = 0; i < size; i++) {
            power[i][i] = 1;
        }
        long whole = 1;
        for (int turn = 0; turn < n; turn++) {
            long[][] next = new long[size][size];
            for (int i = 0; i < size; i++) {
                for (int k = 0; k < size; k++) {
                    next[i][k] = power[i][0] * -s[k + 1];
                    next[i][k] += k + 1 < size ? power[i][k + 1] : 0;
                }
            }
            power = next;
            whole *= p;
        }
        long diagonal = 0;
        for (int i = 0; i < size; i++) {
            diagonal += power[i][i];
        }
        return whole + 1 - diagonal;
    }

    private static void surfaces(Naive naive, Bench bench, int[][] curves, int n, int[][] table) {
        for (int i = 0; i < curves.length; i++) {
            int k = (i * 3 + n) % curves.length;
            String at = naive.p + ": " + i + ", " + k + ", " + n;
            int due = surface(naive, curves[i], curves[k], table);
            Checks.due("surface " + at, bench.on().surface(i, k, n), due);
            Checks.due("surface turned " + at, bench.on().surface(k, i, n), due);
        }
    }

    private static int surface(Naive naive, int[] one, int[] two, int[][] table) {
        int[] others = new int[table.length];
        for (int y = 0; y < table.length; y++) {
            others[y] = naive.curveValue(two[0], two[1], two[2], y, table);
        }
        int triples = 0;
        for (int x = 0; x < table.length; x++) {
            int value = naive.curveValue(one[0], one[1], one[2], x, table);
            for (int other : others) {
                int due = table[value][other];
                for (int z = 0; z < table.length; z++) {
                    triples += table[z][z] == due ? 1 : 0;
                }
            }
        }
        return triples;
    }

    private static void bounds(Naive naive) {
        FieldCounts x = new FieldCounts();
        x.prime(naive.p);
        for (int g = 1; g <= 2; g++) {
            int bound = x.bound(g);
            int limit = 4 * g * g * naive.p;
            Checks.holds("bound " + g, bound * bound <= limit && (bound + 1) * (bound + 1) > limit);
        }
        for (int g : new int[] {0, 3, -1, Integer.MIN_VALUE, Integer.MAX_VALUE}) {
            Checks.due("bound " + g, x.bound(g), BAD);
        }
    }

    private static void noSuchCurve(Naive naive) {
        Bench bench = new Bench(naive.p, new int[] {0, naive.curvePolynomial(5, 2), 0});
        for (int curve : new int[] {-1, 1, 8, Integer.MIN_VALUE, Integer.MAX_VALUE}) {
            String at = naive.p + ": " + curve;
            Checks.due("about " + at, bench.on().about(curve, 0), BAD);
            Checks.due("value " + at, bench.on().value(curve, 1, 0), BAD);
            Checks.due("count " + at, bench.on().count(curve, 1), BAD);
            Checks.due("beyond " + at, bench.on().beyond(curve, 1), BAD);
            Checks.due("share " + at, bench.on().share(curve, 0), NO);
            Checks.due("further " + at, bench.on().further(curve, 1), -1L);
            Checks.due("whole " + at, bench.on().whole(curve), BAD);
            Checks.due("surface " + at, bench.on().surface(curve, 0, 1), BAD);
            Checks.due("surface to " + at, bench.on().surface(0, curve, 1), BAD);
        }
        for (int n : new int[] {0, -1, naive.fields() + 1, Integer.MIN_VALUE, Integer.MAX_VALUE}) {
            String at = naive.p + ": 0, " + n;
            Checks.due("value " + at, bench.on().value(0, n, 0), BAD);
            Checks.due("count " + at, bench.on().count(0, n), BAD);
            Checks.due("beyond " + at, bench.on().beyond(0, n), BAD);
            Checks.due("surface " + at, bench.on().surface(0, 0, n), BAD);
        }
    }

    private static void best(Naive naive) {
        int p = naive.p;
        int[][] table = naive.table(1);
        Bench bench = new Bench(p);
        for (int degree = 3; degree <= 6; degree++) {
            int first = naive.power(p, degree);
            int[] starts = {0, first - 50, first - 1, first, first * 2 - 20, first * p - 30, 1000000};
            for (int from : starts) {
                for (int many : new int[] {1, 2, 100}) {
                    if (from >= 0 && from <= 1000000) {
                        String at = p + ": " + degree + ", " + from + ", " + many;
                        int due = naiveBest(naive, degree, from, many, table);
                        Checks.due("best " + at, bench.on().best(degree, from, many), due);
                    }
                }
            }
        }
    }

    private static int naiveBest(Naive naive, int degree, int from, int many, int[][] table) {
        int best = NONE;
        int most = -1;
        for (int f = from; f < from + many; f++) {
            if (naive.degree(f) == degree && !naive.hasKnot(f)) {
                int points = naive.points(0, f, 0, table);
                if (points > most) {
                    most = points;
                    best = f;
                }
            }
        }
        return best;
    }

    private static void bestRefused() {
        FieldCounts x = new FieldCounts();
        for (int wrong : new int[] {2, 7, -1, Integer.MIN_VALUE, Integer.MAX_VALUE}) {
            Checks.due("best: degree " + wrong, x.best(wrong, 27, 27), BAD);
        }
        for (int wrong : new int[] {-1, 1000001, Integer.MIN_VALUE, Integer.MAX_VALUE}) {
            Checks.due("best: from " + wrong, x.best(3, wrong, 27), BAD);
        }
        for (int wrong : new int[] {0, 101, -1, Integer.MIN_VALUE, Integer.MAX_VALUE}) {
            Checks.due("best: many " + wrong, x.best(3, 27, wrong), BAD);
        }
        Checks.due("best of none", x.best(3, 27, 1), NONE);
    }
}
