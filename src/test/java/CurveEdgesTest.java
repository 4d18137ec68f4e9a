/**
 * The document's sentences on curves that name an edge, one test each: 'Terms', promises 13 to 24
 * and 32. What is due is written out, so that it hangs on no other way of reckoning.
 */
public final class CurveEdgesTest {
    private static final int BAD = FieldCounts.BAD, STATE = FieldCounts.STATE;
    private static final int FULL = FieldCounts.FULL, NONE = FieldCounts.NONE, NO = FieldCounts.NO;
    private static final int LEAST = Integer.MIN_VALUE, GREATEST = Integer.MAX_VALUE;

    private static final int[] PRIMES = Facts.PRIMES, FIELDS = Facts.FIELDS, D = Facts.D;
    private static final int[][] FIRST = Facts.FIRST, LAST = Facts.LAST;
    /** p^3 and p^7: the least f, and the first number that is none. */
    private static final int[] CUBES = {27, 125, 343, 1331, 2197};
    private static final int[] SEVENTHS = {2187, 78125, 823543, 19487171, 62748517};
    /** An f of GENUS 1 and one of GENUS 2 with COUNTS far from p and 1; of PLAIN, then of TWIST. */
    private static final int[][] FAR = {{34, 250}, {135, 3146}, {346, 17285}, {1345, 161055},
        {2201, 373529}};
    private static final int[][][] FAR_COUNTS = {{{7, 1}, {7, 1}}, {{2, 10}, {11, 1}},
        {{13, 3}, {15, 1}}, {{18, 6}, {23, 1}}, {{21, 7}, {2, 26}}};
    private static final int[][][] FAR_SHARES = {{{1, 3, 3}, {1, 3, 7, 9, 9}},
        {{1, -4, 5}, {1, 5, 15, 25, 25}}, {{1, 5, 7}, {1, 7, 25, 49, 49}},
        {{1, 6, 11}, {1, 11, 51, 121, 121}}, {{1, 7, 13}, {1, -12, 62, -156, 169}}};
    private static final int[][][] FAR_WHOLES = {{{7, 1}, {29, 5}}, {{2, 10}, {71, 11}},
        {{13, 3}, {131, 19}}, {{18, 6}, {305, 41}}, {{21, 7}, {64, 400}}};
    /** FURTHER (12), the same of PLAIN and TWIST. */
    private static final long[][] FAR_TWELFTHS = {{529984L, 532043L}, {244117120L, 244156251L},
        {13841440704L, 13840872051L}, {3138426453600L, 3138428496603L},
        {23298094520064L, 23298071299918L}};
    private static final int[][] BOUNDS = {{3, 6}, {4, 8}, {5, 10}, {6, 13}, {7, 14}};
    /** Pairs of an f and its KNOT, with first coefficients other than 1 and derivatives that are 0. */
    private static final int[][] KNOTS = {
        {69, 4, 56, 28, 91, 11, 644, 112, 784, 784, 173, 10, 1456, 140, 1460, 730, 54, 27, 1458, 729},
        {360, 6, 564, 36, 839, 42, 6252, 3126, 18756, 3126, 2526, 27, 26154, 737, 32601, 729},
        {896, 8, 2288, 64, 4792, 72, 43192, 4096, 223042, 30024, 14657, 50, 147487, 4216, 823542, 22875},
        {3168, 12, 14376, 144, 22884, 156, 481692, 20736, 2808961, 248832, 147509, 122, 3119604, 22464},
        {5096, 14, 28196, 196, 41903, 210, 1044890, 38416, 7127485, 537824, 344262, 171, 9998212, 29241}};

    private final int prime;
    private final int p;
    private final int first;
    private final int knotted;

    private CurveEdgesTest(int prime) {
        this.prime = prime;
        p = PRIMES[prime];
        first = FIRST[prime][0];
        knotted = CUBES[prime];
    }

    public static void main(String[] args) {
        for (int prime = 0; prime < PRIMES.length; prime++) {
            new CurveEdgesTest(prime).check();
        }
        pointsOfThree();
        surfacesOfThree();
        bestOfThree();
        bestWithBeyond();
        bestFromTheEnds();
        Checks.finish();
    }

    private void check() {
        kinds();
        degrees();
        movedBy();
        tIsNotLookedAt();
        eightAtMost();
        theFirstRefusal();
        knots();
        knotBehindCurve();
        knotBehindOtherCalls();
        about();
        genus();
        values();
        wrapAround();
        twisted();
        beyond();
        shares();
        further();
        beyondTheShare();
        bounds();
        surfaces();
        traced();
        best();
        bestAcrossDegrees();
    }

    private FieldCounts fresh() {
        FieldCounts x = new FieldCounts();
        x.prime(p);
        return x;
    }

    /** An object with one CURVE. */
    private FieldCounts with(int kind, int f, int t) {
        FieldCounts x = fresh();
        due("curve " + kind + ", " + f + ", " + t, x.curve(kind, f, t), 0);
        return x;
    }

    private void due(String call, long got, long want) {
        Checks.due(p + ": " + call, got, want);
    }

    private int size(int n) {
        int size = 1;
        for (int i = 0; i < n; i++) {
            size *= p;
        }
        return size;
    }

    /** Promise 13: KINDS are 0, 1, 2. */
    private void kinds() {
        for (int kind = 0; kind <= 2; kind++) {
            due("kind", with(kind, first, 0).about(0, 0), kind);
        }
        for (int kind : new int[] {-1, 3, 4, LEAST, GREATEST}) {
            due("kind " + kind, fresh().curve(kind, first, 0), BAD);
        }
    }

    /** "a POLYNOMIAL f of degree 3 .. 6". */
    private void degrees() {
        for (int degree = 3; degree <= 6; degree++) {
            due("first of a degree", with(0, FIRST[prime][degree - 3], 0).about(0, 3), degree);
            due("last of a degree", with(0, LAST[prime][degree - 3], 0).about(0, 3), degree);
        }
        due("p^3, the least f", fresh().curve(0, CUBES[prime], 0), STATE);
        due("below p^3", fresh().curve(0, CUBES[prime] - 1, 0), BAD);
        int last = SEVENTHS[prime] - 1;
        due("below p^7", fresh().curve(0, last, 0), last == LAST[prime][3] ? 0 : STATE);
        due("p^7", fresh().curve(0, SEVENTHS[prime], 0), BAD);
        due("behind p^7", fresh().curve(0, SEVENTHS[prime] + 1, 0), BAD);
        for (int f : new int[] {0, 1, -1, p, p * p, -first, LEAST, GREATEST}) {
            for (int kind = 0; kind <= 2; kind++) {
                due("f " + f, fresh().curve(kind, f, 0), BAD);
            }
        }
    }

    /** "MOVED with a t, 0 .. p - 1, too". */
    private void movedBy() {
        for (int t = 0; t < p; t++) {
            due("t", with(2, first, t).about(0, 2), t);
        }
        for (int t : new int[] {-1, -2, p, p + 1, LEAST, GREATEST}) {
            due("t " + t, fresh().curve(2, first, t), BAD);
        }
    }

    /** "(t is not looked at but of MOVED.)", and about() tells it as 0 but of MOVED. */
    private void tIsNotLookedAt() {
        for (int kind = 0; kind <= 1; kind++) {
            for (int t : new int[] {-1, 0, 1, p - 1, p, LEAST, GREATEST}) {
                FieldCounts x = with(kind, first, t);
                due("t is told as 0", x.about(0, 2), 0);
                due("its polynomial", x.about(0, 5), with(kind, first, 0).about(0, 5));
                due("a KNOT is, with any t", fresh().curve(kind, knotted, t), STATE);
            }
        }
    }

    /** "CURVES (8 at most)": numbers 0 .. 7, then FULL for each KIND, and the eight stay. */
    private void eightAtMost() {
        FieldCounts x = fresh();
        for (int i = 0; i < 8; i++) {
            due("CURVES before", x.told(2), i);
            due("about the next one", x.about(i, 0), BAD);
            due("curve " + i, x.curve(i % 3, FIRST[prime][i % 4], i % p), i);
            due("about it", x.about(i, 3), 3 + i % 4);
        }
        for (int kind = 0; kind <= 2; kind++) {
            due("a ninth one", x.curve(kind, first, 0), FULL);
            due("CURVES", x.told(2), 8);
            due("about a ninth one", x.about(8, 0), BAD);
        }
        for (int i = 0; i < 8; i++) {
            due("KIND of " + i, x.about(i, 0), i % 3);
            due("f of " + i, x.about(i, 1), FIRST[prime][i % 4]);
            due("t of " + i, x.about(i, 2), i % 3 == 2 ? i % p : 0);
        }
    }

    /** "the first of these: BAD, STATE, FULL", where two or three of them fit. */
    private void theFirstRefusal() {
        FieldCounts x = fresh();
        due("KIND before KNOT", x.curve(3, knotted, 0), BAD);
        due("t before KNOT", x.curve(2, knotted, p), BAD);
        for (int i = 0; i < 8; i++) {
            x.curve(0, first, 0);
        }
        due("KIND before KNOT and FULL", x.curve(-1, knotted, 0), BAD);
        due("t before KNOT and FULL", x.curve(2, knotted, -1), BAD);
        due("KIND before FULL", x.curve(3, first, 0), BAD);
        due("f before FULL", x.curve(0, CUBES[prime] - 1, 0), BAD);
        due("p^7 before FULL", x.curve(0, SEVENTHS[prime], 0), BAD);
        due("t before FULL", x.curve(2, first, p), BAD);
        due("KNOT before FULL", x.curve(0, knotted, 0), STATE);
        due("KNOT before FULL, MOVED", x.curve(2, knotted, p - 1), STATE);
        due("FULL", x.curve(2, first, p - 1), FULL);
    }

    /** "a common divisor of degree 1 or more; the greatest one, with 1 as its first coefficient". */
    private void knots() {
        int[] row = KNOTS[prime];
        for (int i = 0; i + 1 < row.length; i += 2) {
            for (int kind = 0; kind <= 2; kind++) {
                FieldCounts x = fresh();
                due("curve of " + row[i], x.curve(kind, row[i], p - 1), STATE);
                due("knot of " + row[i], x.knot(), row[i + 1]);
                due("no CURVE of it", x.told(2), 0);
            }
        }
    }

    /** Promise 14: behind a curve() that told BAD, STATE, a number, FULL, in each order. */
    private void knotBehindCurve() {
        int f = KNOTS[prime][0];
        int knot = KNOTS[prime][1];
        int cube = p == 3 ? 27 : p * p;
        FieldCounts x = fresh();
        due("at first", x.knot(), NONE);
        due("BAD", x.curve(0, 1, 0), BAD);
        due("BAD leaves NONE", x.knot(), NONE);
        due("STATE", x.curve(0, knotted, 0), STATE);
        due("STATE tells it", x.knot(), cube);
        due("told twice", x.knot(), cube);
        due("BAD", x.curve(3, first, 0), BAD);
        due("BAD of a KIND leaves it", x.knot(), cube);
        due("BAD", x.curve(2, f, p), BAD);
        due("BAD of a t leaves it", x.knot(), cube);
        due("STATE", x.curve(1, f, 0), STATE);
        due("the latest one", x.knot(), knot);
        due("a number", x.curve(0, first, 0), 0);
        due("a number makes it NONE", x.knot(), NONE);
        due("BAD", x.curve(0, GREATEST, 0), BAD);
        due("BAD leaves NONE", x.knot(), NONE);
        due("STATE", x.curve(2, f, 0), STATE);
        for (int i = 1; i < 8; i++) {
            due("a number", x.curve(i % 3, first, 0), i);
            due("NONE again", x.knot(), NONE);
        }
        due("STATE with eight", x.curve(0, f, 0), STATE);
        due("its KNOT", x.knot(), knot);
        due("BAD with eight", x.curve(0, LEAST, 0), BAD);
        due("BAD leaves it", x.knot(), knot);
        due("FULL", x.curve(0, first, 0), FULL);
        due("FULL makes it NONE", x.knot(), NONE);
        due("BAD with eight", x.curve(-1, f, 0), BAD);
        due("BAD leaves NONE", x.knot(), NONE);
    }

    /** Only curve() changes it, not prime() and not best(), which looks for KNOTS too. */
    private void knotBehindOtherCalls() {
        FieldCounts x = with(0, first, 0);
        x.curve(0, KNOTS[prime][0], 0);
        int knot = KNOTS[prime][1];
        due("behind best()", x.best(3, CUBES[prime], 100) > 0 ? x.knot() : 0, knot);
        due("behind best() of a KNOT", x.best(3, CUBES[prime], 1) == NONE ? x.knot() : 0, knot);
        due("behind value()", x.value(0, 1, 0) >= 0 ? x.knot() : 0, knot);
        due("behind classes()", x.classes(0) > 0 ? x.knot() : 0, knot);
        due("behind a refused prime()", x.prime(4) == BAD ? x.knot() : 0, knot);
        due("behind prime()", x.prime(13) == 2 ? x.knot() : 0, knot);
    }

    /** Promise 15: what is 0 .. 5. */
    private void about() {
        FieldCounts x = with(2, LAST[prime][3], p - 1);
        due("KIND", x.about(0, 0), 2);
        due("f", x.about(0, 1), LAST[prime][3]);
        due("t", x.about(0, 2), p - 1);
        due("degree", x.about(0, 3), 6);
        due("GENUS", x.about(0, 4), 2);
        due("ITS POLYNOMIAL has its degree", x.about(0, 5) / size(6) > 0 ? 6 : 0, 6);
        due("ITS POLYNOMIAL of PLAIN", with(0, LAST[prime][3], 1).about(0, 5), LAST[prime][3]);
        for (int what : new int[] {-1, 6, 7, LEAST, GREATEST}) {
            due("about " + what, x.about(0, what), BAD);
        }
        for (int curve : new int[] {-1, 1, 8, LEAST, GREATEST}) {
            due("about of " + curve, x.about(curve, 0), BAD);
        }
    }

    /** "GENUS is 1 for degrees 3, 4, else 2". */
    private void genus() {
        for (int degree = 3; degree <= 6; degree++) {
            for (int kind = 0; kind <= 2; kind++) {
                FieldCounts x = with(kind, FIRST[prime][degree - 3], 1);
                due("GENUS of degree " + degree, x.about(0, 4), degree <= 4 ? 1 : 2);
            }
        }
    }

    /** Promise 16: x of F(n) is 0 .. p^n - 1. */
    private void values() {
        for (int n = 1; n <= FIELDS[prime]; n++) {
            FieldCounts x = with(0, first, 0);
            due("value at 0", x.value(0, n, 0), first % p);
            due("value at the last is taken", x.value(0, n, size(n) - 1) >= 0 ? 1 : 0, 1);
            for (int at : new int[] {-1, size(n), size(n) + 1, LEAST, GREATEST}) {
                due("value at " + at, x.value(0, n, at), BAD);
            }
            due("value of no CURVE", x.value(1, n, 0), BAD);
        }
        FieldCounts x = with(0, first, 0);
        for (int n : new int[] {0, -1, FIELDS[prime] + 1, LEAST, GREATEST}) {
            due("value in " + n, x.value(0, n, 0), BAD);
            due("count in " + n, x.count(0, n), BAD);
            due("beyond in " + n, x.beyond(0, n), BAD);
        }
    }

    /** "MOVED up, at x and t": added in F(n), so that p - 1 and 1 come to 0 and nothing is carried. */
    private void wrapAround() {
        FieldCounts x = with(1, LAST[prime][2], 0);
        x.curve(2, LAST[prime][2], 1);
        x.curve(2, LAST[prime][2], p - 1);
        x.curve(2, LAST[prime][2], 0);
        for (int n = 1; n <= FIELDS[prime]; n++) {
            int last = size(n) - 1;
            due("the last, moved by 1", x.value(1, n, last), x.value(0, n, size(n) - p));
            due("p - 1, moved by 1", x.value(1, n, p - 1), x.value(0, n, 0));
            due("1, moved by p - 1", x.value(2, n, 1), x.value(0, n, 0));
            due("0, moved by p - 1", x.value(2, n, 0), x.value(0, n, p - 1));
            due("the last, moved by p - 1", x.value(2, n, last), x.value(0, n, last - 1));
            due("the last, moved by 0", x.value(3, n, last), x.value(0, n, last));
        }
        due("ITS POLYNOMIAL, moved by 0", x.about(3, 5), x.about(0, 5));
    }

    /** "TWIST D times up": 0 stays 0. */
    private void twisted() {
        int f = CUBES[prime] + p;
        FieldCounts x = with(0, f, 0);
        x.curve(1, f, 0);
        for (int n = 1; n <= FIELDS[prime]; n++) {
            due("PLAIN at 0", x.value(0, n, 0), 0);
            due("TWIST at 0", x.value(1, n, 0), 0);
            due("PLAIN at 1", x.value(0, n, 1), 2);
            due("TWIST at 1", x.value(1, n, 1), 2 * D[prime] % p);
        }
        due("ITS POLYNOMIAL of TWIST", x.about(1, 5), D[prime] * f);
    }

    /** "BEYOND: 1 for an odd degree; else 2, if the first coefficient .. is a square in F(n), 0 if not". */
    private void beyond() {
        int timesD = D[prime] * size(4) + FIRST[prime][1] % size(4);
        for (int n = 1; n <= FIELDS[prime]; n++) {
            int ofD = n % 2 == 0 ? 2 : 0;
            for (int kind = 0; kind <= 2; kind++) {
                due("degree 3", with(kind, FIRST[prime][0], 1).beyond(0, n), 1);
                due("degree 5", with(kind, LAST[prime][2], 1).beyond(0, n), 1);
                int ofOne = kind == 0 ? 2 : ofD;
                due("degree 4", with(kind, FIRST[prime][1], 1).beyond(0, n), ofOne);
                due("degree 6", with(kind, FIRST[prime][3], 1).beyond(0, n), ofOne);
                due("first D", with(kind, timesD, 1).beyond(0, n), kind == 0 ? ofD : 2);
            }
        }
        FieldCounts x = with(0, FIRST[prime][1], 0);
        for (int curve : new int[] {-1, 1, LEAST, GREATEST}) {
            due("beyond of " + curve, x.beyond(curve, 1), BAD);
            due("count of " + curve, x.count(curve, 1), BAD);
        }
    }

    /** Promise 19: "i 0 .. 2 GENUS", NO elsewhere; promise 21, with the TWIST's changed signs. */
    private void shares() {
        for (int g = 1; g <= 2; g++) {
            int[] due = FAR_SHARES[prime][g - 1];
            FieldCounts x = with(0, FAR[prime][g - 1], 0);
            x.curve(1, FAR[prime][g - 1], 0);
            for (int kind = 0; kind <= 1; kind++) {
                due("count, GENUS " + g, x.count(kind, 1), FAR_COUNTS[prime][g - 1][kind]);
                due("whole, GENUS " + g, x.whole(kind), FAR_WHOLES[prime][g - 1][kind]);
                for (int i = 0; i < due.length; i++) {
                    int sign = kind == 1 && i % 2 == 1 ? -1 : 1;
                    due("share " + i, x.share(kind, i), sign * due[i]);
                }
                for (int i : new int[] {-1, due.length, due.length + 1, LEAST, GREATEST}) {
                    due("share " + i, x.share(kind, i), NO);
                }
            }
            for (int curve : new int[] {-1, 2, LEAST, GREATEST}) {
                due("share of " + curve, x.share(curve, 0), NO);
                due("whole of " + curve, x.whole(curve), BAD);
            }
        }
    }

    /** Promise 20: "n 1 .. 12", else -1; the 12th goes far beyond an int. */
    private void further() {
        for (int g = 1; g <= 2; g++) {
            FieldCounts x = with(0, FAR[prime][g - 1], 0);
            x.curve(1, FAR[prime][g - 1], 0);
            for (int kind = 0; kind <= 1; kind++) {
                due("further 1", x.further(kind, 1), FAR_COUNTS[prime][g - 1][kind]);
                due("further 12", x.further(kind, 12), FAR_TWELFTHS[prime][g - 1]);
                for (int n : new int[] {0, -1, 13, 14, LEAST, GREATEST}) {
                    due("further " + n, x.further(kind, n), -1L);
                }
            }
            for (int curve : new int[] {-1, 2, LEAST, GREATEST}) {
                due("further of " + curve, x.further(curve, 1), -1L);
            }
        }
    }

    /** "(s beyond 2 g is 0)", "(FURTHER (n) is COUNT (n).)": n up to 2 g, and above it. */
    private void beyondTheShare() {
        for (int degree = 3; degree <= 6; degree++) {
            for (int kind = 0; kind <= 2; kind++) {
                FieldCounts x = with(kind, LAST[prime][degree - 3], 1);
                for (int n = 1; n <= FIELDS[prime]; n++) {
                    due("further " + n + ", degree " + degree, x.further(0, n), x.count(0, n));
                }
            }
        }
    }

    /** Promise 22: "BAD: g 1, 2" are what is taken. */
    private void bounds() {
        FieldCounts x = fresh();
        due("bound 1", x.bound(1), BOUNDS[prime][0]);
        due("bound 2", x.bound(2), BOUNDS[prime][1]);
        for (int g : new int[] {0, -1, -2, 3, LEAST, GREATEST}) {
            due("bound " + g, x.bound(g), BAD);
        }
    }

    /** Promise 23: "another one (or the same)". */
    private void surfaces() {
        FieldCounts x = with(0, first, 0);
        x.curve(1, first, 0);
        for (int n = 1; n <= FIELDS[prime]; n++) {
            int away = x.count(0, n) - 1 - size(n);
            int turned = n % 2 == 0 ? away : -away;
            due("of the same", x.surface(0, 0, n), size(n) * size(n) + away * away);
            due("of another one", x.surface(0, 1, n), size(n) * size(n) + away * turned);
            due("the same, twisted", x.surface(1, 1, n), size(n) * size(n) + away * away);
        }
        for (int wrong : new int[] {-1, 2, 8, LEAST, GREATEST}) {
            due("surface of " + wrong, x.surface(wrong, 0, 1), BAD);
            due("surface over " + wrong, x.surface(0, wrong, 1), BAD);
        }
        for (int n : new int[] {0, -1, FIELDS[prime] + 1, LEAST, GREATEST}) {
            due("surface in " + n, x.surface(0, 1, n), BAD);
        }
    }

    /** Promise 32: 1, 10 and 1, 100 and 10 and 1; a refused value() brings nothing; prime() neither. */
    private void traced() {
        FieldCounts x = with(0, first, 0);
        x.curve(1, first, 0);
        x.curve(2, first, 0);
        due("before", x.traced(), 0L);
        x.value(0, 1, 0);
        due("PLAIN", x.traced(), 1L);
        x.value(1, FIELDS[prime], size(FIELDS[prime]) - 1);
        due("TWIST", x.traced(), 12L);
        x.value(2, 1, p - 1);
        due("MOVED", x.traced(), 123L);
        x.value(2, 1, p);
        x.value(2, 1, -1);
        x.value(2, 0, 0);
        x.value(2, FIELDS[prime] + 1, 0);
        x.value(3, 1, 0);
        x.value(-1, 1, 0);
        x.value(LEAST, LEAST, LEAST);
        x.value(GREATEST, GREATEST, GREATEST);
        due("refused", x.traced(), 123L);
        x.prime(p);
        due("behind prime()", x.traced(), 123L);
        x.value(0, 1, 0);
        due("no CURVE", x.traced(), 123L);
        x.curve(0, first, 0);
        x.value(0, 1, 0);
        due("and on", x.traced(), 124L);
    }

    /** Promise 24: degree 3 .. 6, the number 0 .. 1000000, many 1 .. 100. */
    private void best() {
        for (int degree = 3; degree <= 6; degree++) {
            int good = FIRST[prime][degree - 3];
            if (good <= 1000000) {
                due("the one number", fresh().best(degree, good, 1), good);
                due("the last of 100", fresh().best(degree, good - 99, 100), good >= 99 ? good : BAD);
                due("behind the last", fresh().best(degree, good - 100, 100), good >= 100 ? NONE : BAD);
                due("one before", fresh().best(degree, good - 1, 1), NONE);
                due("two, of which it is the last", fresh().best(degree, good - 1, 2), good);
            }
        }
        int from = CUBES[prime];
        for (int degree : new int[] {2, 1, 0, -1, 7, LEAST, GREATEST}) {
            due("degree " + degree, fresh().best(degree, from, 100), BAD);
        }
        for (int number : new int[] {-1, 1000001, LEAST, GREATEST}) {
            due("from " + number, fresh().best(3, number, 1), BAD);
            due("from " + number, fresh().best(6, number, 100), BAD);
        }
        for (int many : new int[] {0, -1, 101, LEAST, GREATEST}) {
            due("many " + many, fresh().best(3, from, many), BAD);
        }
        FieldCounts x = fresh();
        due("best makes no CURVE", x.best(3, first, 1) == first ? x.told(2) : -1, 0);
    }

    /** 100 numbers around p^degree: only those of the degree that is asked for. */
    private void bestAcrossDegrees() {
        int[][] before = {{205, 250}, {3091, 3146}, {16760, 16832}, {161028, 161055}, {371252, 371308}};
        int edge = size(5) - 50;
        due("degree 4 below p^5", fresh().best(4, edge, 100), before[prime][0]);
        due("degree 5 from p^5", fresh().best(5, edge, 100), before[prime][1]);
        due("no degree 3 there", fresh().best(3, edge, 100), NONE);
        due("no degree 6 there", fresh().best(6, edge, 100), NONE);
    }

    /** COUNT for p 3: two, one or no y for each x; BEYOND alone, and nothing at all. */
    private static void pointsOfThree() {
        int[][] due = {{33, 4}, {34, 7}, {35, 1}, {748, 8}, {1469, 0}};
        for (int[] row : due) {
            FieldCounts x = new FieldCounts();
            x.curve(0, row[0], 0);
            Checks.due("count of " + row[0], x.count(0, 1), row[1]);
            Checks.due("further of " + row[0], x.further(0, 1), row[1]);
            Checks.due("s(1) of " + row[0], x.share(0, 1), row[1] - 4);
        }
        FieldCounts x = new FieldCounts();
        x.curve(0, 1469, 0);
        int[] counts = {0, 12, 36, 84, 240};
        for (int n = 1; n <= 5; n++) {
            Checks.due("count of 1469 in " + n, x.count(0, n), counts[n - 1]);
        }
        x.curve(0, 38, 0);
        Checks.due("a share of -1 is no refusal", x.share(1, 1), -1);
    }

    /** z z is 0, 1 or 2 for all x and y. */
    private static void surfacesOfThree() {
        FieldCounts x = new FieldCounts();
        x.curve(0, 33, 0);
        x.curve(0, 34, 0);
        x.curve(0, 35, 0);
        int[][] due = {{9, 9, 9}, {9, 18, 0}, {9, 0, 18}};
        for (int i = 0; i < 3; i++) {
            for (int k = 0; k < 3; k++) {
                Checks.due("surface " + i + ", " + k, x.surface(i, k, 1), due[i][k]);
            }
        }
    }

    /** "the first of those .. whose PLAIN CURVE has the most points"; the rows: degree, from, many. */
    private static void bestOfThree() {
        int[][] rows = {{3, 27, 27, 34}, {3, 27, 7, 30}, {3, 27, 8, 34}, {3, 34, 1, 34}, {3, 35, 1, 35},
            {3, 35, 23, 37}, {3, 35, 24, 58}, {3, 38, 5, 40}, {3, 41, 2, 42}, {3, 27, 1, NONE}, {3, 27, 3, NONE},
            {3, 27, 4, 30}, {3, 36, 1, NONE}, {3, 0, 100, 34}, {4, 0, 100, 85}, {5, 0, 100, NONE},
            {6, 0, 100, NONE}, {3, 0, 27, NONE}, {3, 81, 100, NONE}, {6, 1469, 1, 1469},
            {6, 2186, 100, 2186}, {6, 2187, 100, NONE}};
        for (int[] row : rows) {
            String at = row[0] + ", " + row[1] + ", " + row[2];
            Checks.due("best " + at, new FieldCounts().best(row[0], row[1], row[2]), row[3]);
        }
    }

    /** Points are those of COUNT, with BEYOND: without it another one would be the best. */
    private static void bestWithBeyond() {
        int[][] rows = {{3, 4, 142, 145}, {3, 6, 1455, 1457}, {5, 4, 1230, 1231}, {7, 4, 9593, 9625},
            {13, 4, 57102, 57121}};
        for (int[] row : rows) {
            FieldCounts x = new FieldCounts();
            x.prime(row[0]);
            Checks.due("best " + row[0] + ": " + row[2], x.best(row[1], row[2], 40), row[3]);
        }
    }

    /** From 0 and from 1000000 on: the last POLYNOMIAL that is looked at is 1000099. */
    private static void bestFromTheEnds() {
        int[] hundred = {NONE, NONE, NONE, 1000063, 1000009};
        for (int prime = 0; prime < PRIMES.length; prime++) {
            FieldCounts x = new FieldCounts();
            x.prime(PRIMES[prime]);
            for (int degree = 3; degree <= 6; degree++) {
                boolean there = degree == 5 && PRIMES[prime] > 7;
                String at = PRIMES[prime] + ": " + degree;
                Checks.due("100 from 1000000, " + at, x.best(degree, 1000000, 100),
                        there ? hundred[prime] : NONE);
                Checks.due("1 from 1000000, " + at, x.best(degree, 1000000, 1), there ? 1000000 : NONE);
                Checks.due("1 from 0, " + at, x.best(degree, 0, 1), NONE);
            }
        }
    }
}
