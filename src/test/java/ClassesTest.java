/** Promises 25 to 30: classes of points and their law. */
public final class ClassesTest {
    private static final int BAD = FieldCounts.BAD, NONE = FieldCounts.NONE;

    private ClassesTest() {
    }

    public static void main(String[] args) {
        for (int p : Naive.PRIMES) {
            Naive naive = new Naive(p);
            for (int kind = 0; kind < 3; kind++) {
                for (int degree = 3; degree <= 5; degree += 2) {
                    for (int seed = 0; seed < 4; seed++) {
                        int f = naive.curvePolynomial(degree, 11 * seed + kind);
                        new Case(naive, new int[] {kind, f, seed % p}).check(seed == 0);
                    }
                }
            }
            refused(naive);
            manyCurves(naive);
        }
        edgesOfPairs();
        sumsByAnyFactors(new Naive(3));
        Checks.finish();
    }

    /** One CURVE of an odd degree, with its pairs found by going through all of them. */
    private static final class Case {
        private final Naive naive;
        private final int[] told;
        private final Bench bench;
        private final long polynomial;
        private final int genus;
        private final int[][] pairs;

        Case(Naive naive, int[] told) {
            this.naive = naive;
            this.told = told;
            bench = new Bench(naive.p, told);
            polynomial = bench.on().about(0, 5);
            genus = naive.degree(told[1]) < 5 ? 1 : 2;
            pairs = pairs();
        }

        private String at() {
            return naive.p + " " + told[0] + " " + told[1] + " " + told[2] + ": ";
        }

        private int[][] pairs() {
            java.util.List<int[]> found = new java.util.ArrayList<>();
            int end = naive.power(naive.p, genus);
            for (int u = 1; u < 2 * end; u++) {
                for (int v = 0; naive.lead(u) == 1 && v < end; v++) {
                    if (naive.isClass(polynomial, genus, u, v)) {
                        found.add(new int[] {u, v});
                    }
                }
            }
            return found.toArray(new int[0][]);
        }

        private int indexOf(long u, long v) {
            for (int i = 0; i < pairs.length; i++) {
                if (pairs[i][0] == u && pairs[i][1] == v) {
                    return i;
                }
            }
            return NONE;
        }

        void check(boolean allOrders) {
            list();
            points();
            laws();
            orders(allOrders ? 1 : 7);
            wrongIndices();
        }

        private void list() {
            Checks.due(at() + "classes", bench.on().classes(0), pairs.length);
            Checks.due(at() + "whole", bench.on().whole(0), pairs.length);
            for (int i = 0; i < pairs.length; i++) {
                Checks.due(at() + "u of " + i, bench.on().classAt(0, i, 0), pairs[i][0]);
                Checks.due(at() + "v of " + i, bench.on().classAt(0, i, 1), pairs[i][1]);
            }
            int end = naive.power(naive.p, genus);
            for (int u = 0; u < 3 * end; u += 1 + u / 9) {
                for (int v = 0; v < 2 * end; v += 1 + v / 9) {
                    int due = naive.isClass(polynomial, genus, u, v) ? 1 : 0;
                    Checks.due(at() + "isClass " + u + ", " + v, bench.on().isClass(0, u, v), due);
                }
            }
        }

        /** Sums of points: a chord or a tangent for GENUS 1, the pair of both points for GENUS 2. */
        private void points() {
            int p = naive.p;
            for (int i = 1; i < pairs.length && pairs[i][0] < 2 * p; i++) {
                for (int k = 1; k < pairs.length && pairs[k][0] < 2 * p; k++) {
                    int x1 = (2 * p - pairs[i][0]) % p;
                    int x2 = (2 * p - pairs[k][0]) % p;
                    int due = sumOfPoints(x1, pairs[i][1], x2, pairs[k][1]);
                    Checks.due(at() + "add " + i + ", " + k, bench.on().add(0, i, k), due);
                }
            }
        }

        private int sumOfPoints(int x1, int y1, int x2, int y2) {
            int p = naive.p;
            if (x1 == x2 && (y1 + y2) % p == 0) {
                return 0;
            }
            int slope = slope(x1, y1, x2, y2);
            if (genus == 2) {
                long u = naive.product(p + (p - x1) % p, p + (p - x2) % p);
                long v = slope * p + Math.floorMod(y1 - slope * x1, p);
                return indexOf(u, v);
            }
            // The line meets the curve in three points, whose x add up to what x x has.
            int[] row = naive.row(polynomial);
            int x3 = Math.floorMod((slope * slope - row[2]) * naive.over(row[3]) - x1 - x2, p);
            int y3 = Math.floorMod(y1 + slope * (x3 - x1), p);
            return indexOf(p + (p - x3) % p, (p - y3) % p);
        }

        private int slope(int x1, int y1, int x2, int y2) {
            int p = naive.p;
            if (x1 != x2) {
                return Math.floorMod((y2 - y1) * naive.over(Math.floorMod(x2 - x1, p)), p);
            }
            int[] row = naive.row(naive.derivative(polynomial));
            int value = 0;
            for (int i = row.length - 1; i >= 0; i--) {
                value = (value * x1 + row[i]) % p;
            }
            return value * naive.over(2 * y1 % p) % p;
        }

        private void laws() {
            int many = pairs.length;
            int step = 1 + many / 12;
            for (int i = 0; i < many; i++) {
                Checks.due(at() + "add 0 to " + i, bench.on().add(0, i, 0), i);
                int opposite = bench.on().minus(0, i);
                long minusV = naive.difference(0, pairs[i][1]);
                Checks.due(at() + "minus " + i, opposite, indexOf(pairs[i][0], minusV));
                Checks.due(at() + "with its minus " + i, bench.on().add(0, i, opposite), 0);
            }
            for (int i = 0; i < many; i += step) {
                for (int k = 0; k < many; k += step) {
                    int sum = bench.on().add(0, i, k);
                    Checks.holds(at() + "a sum is a class", sum >= 0 && sum < many);
                    Checks.due(at() + "turned", bench.on().add(0, k, i), sum);
                    int j = (i * 5 + k * 3 + 1) % many;
                    int right = bench.on().add(0, i, bench.on().add(0, k, j));
                    Checks.due(at() + "three of them", bench.on().add(0, sum, j), right);
                }
            }
        }

        /** order, by adding up. */
        private void orders(int step) {
            for (int i = 0; i < pairs.length; i += step) {
                int order = 1;
                for (int sum = i; sum != 0 && order < 1000; order++) {
                    sum = bench.on().add(0, sum, i);
                }
                Checks.due(at() + "order " + i, bench.on().order(0, i), order);
            }
        }

        private void wrongIndices() {
            int many = pairs.length;
            Checks.due(at() + "no such class", bench.on().classAt(0, many, 0), NONE);
            Checks.due(at() + "no such v", bench.on().classAt(0, many, 1), NONE);
            Checks.due(at() + "far", bench.on().classAt(0, Integer.MAX_VALUE, 1), NONE);
            Checks.due(at() + "i of -1", bench.on().classAt(0, -1, 0), BAD);
            Checks.due(at() + "what of 2", bench.on().classAt(0, 0, 2), BAD);
            Checks.due(at() + "what of -1", bench.on().classAt(0, 0, -1), BAD);
            Checks.due(at() + "BAD before NONE", bench.on().classAt(0, many, 2), BAD);
            for (int i : new int[] {-1, many, Integer.MIN_VALUE, Integer.MAX_VALUE}) {
                Checks.due(at() + "add i " + i, bench.on().add(0, i, 0), BAD);
                Checks.due(at() + "add k " + i, bench.on().add(0, 0, i), BAD);
                Checks.due(at() + "minus " + i, bench.on().minus(0, i), BAD);
                Checks.due(at() + "order " + i, bench.on().order(0, i), BAD);
            }
            Checks.due(at() + "u below 0", bench.on().isClass(0, -1, 0), BAD);
            Checks.due(at() + "v below 0", bench.on().isClass(0, 1, -1), BAD);
            Checks.due(at() + "order of the first", bench.on().order(0, 0), 1);
        }
    }

    private static void refused(Naive naive) {
        Bench bench = new Bench(naive.p, new int[] {0, naive.curvePolynomial(4, 1), 0},
                new int[] {1, naive.curvePolynomial(6, 1), 0});
        for (int curve : new int[] {0, 1, 2, -1, 8, Integer.MIN_VALUE, Integer.MAX_VALUE}) {
            String at = naive.p + ": " + curve;
            Checks.due("isClass " + at, bench.on().isClass(curve, 1, 0), BAD);
            Checks.due("classes " + at, bench.on().classes(curve), BAD);
            Checks.due("classAt " + at, bench.on().classAt(curve, 0, 0), BAD);
            Checks.due("add " + at, bench.on().add(curve, 0, 0), BAD);
            Checks.due("minus " + at, bench.on().minus(curve, 0), BAD);
            Checks.due("order " + at, bench.on().order(curve, 0), BAD);
        }
        for (int curve = 0; curve < 2; curve++) {
            Checks.holds("whole of an even degree", bench.on().whole(curve) > 0);
        }
    }

    /** CLASSES of several CURVES, asked by turns, and again after prime(). */
    private static void manyCurves(Naive naive) {
        FieldCounts x = new FieldCounts();
        for (int round = 0; round < 2; round++) {
            x.prime(naive.p);
            for (int i = 0; i < 8; i++) {
                x.curve(i % 3, naive.curvePolynomial(3 + 2 * ((i + round) % 2), i * 5 + round), 1);
            }
            for (int i = 0; i < 24; i++) {
                Checks.due("classes by turns", x.classes(i * 3 % 8), x.whole(i * 3 % 8));
            }
        }
    }

    private static void edgesOfPairs() {
        Bench bench = new Bench(5, new int[] {0, 126, 0});
        Checks.due("u of 0", bench.on().isClass(0, 0, 0), 0);
        Checks.due("the first one", bench.on().isClass(0, 1, 0), 1);
        Checks.due("u 1 with a v", bench.on().isClass(0, 1, 1), 0);
        Checks.due("u 2", bench.on().isClass(0, 2, 0), 0);
        Checks.due("2 x", bench.on().isClass(0, 10, 1), 0);
        Checks.due("degree above genus", bench.on().isClass(0, 126, 0), 0);
        Checks.due("a root", bench.on().isClass(0, 6, 0), 1);
        Checks.due("a great u", bench.on().isClass(0, Integer.MAX_VALUE, 0), 0);
        Checks.due("a great v", bench.on().isClass(0, 5, Integer.MAX_VALUE), 0);
    }

    /** THE SUM as the document tells it, with any a, b, c that fit, found by trying all. */
    private static void sumsByAnyFactors(Naive naive) {
        for (int[] told : new int[][] {{0, 250, 0}, {1, 250, 0}, {0, 489, 0}, {2, 34, 2}, {1, 33, 0}}) {
            Bench bench = new Bench(3, told);
            long polynomial = bench.on().about(0, 5);
            int genus = bench.on().about(0, 4);
            int many = bench.on().classes(0);
            for (int i = 0; i < many; i++) {
                for (int k = i; k < many; k++) {
                    int[] pair = {bench.on().classAt(0, i, 0), bench.on().classAt(0, i, 1),
                        bench.on().classAt(0, k, 0), bench.on().classAt(0, k, 1)};
                    long[] due = anySum(naive, polynomial, genus, pair);
                    int sum = bench.on().add(0, i, k);
                    Checks.due("u of the sum", bench.on().classAt(0, sum, 0), due[0]);
                    Checks.due("v of the sum", bench.on().classAt(0, sum, 1), due[1]);
                }
            }
        }
    }

    private static long[] anySum(Naive naive, long polynomial, int genus, int[] pair) {
        long u = pair[0];
        long w = pair[2];
        long both = naive.sum(pair[1], pair[3]);
        long d = 1;
        for (long divisor = 1; divisor < 18; divisor++) {
            boolean fits = naive.lead(divisor) == 1 && naive.rest(u, divisor) == 0;
            if (fits && naive.rest(w, divisor) == 0 && naive.rest(both, divisor) == 0) {
                d = divisor;
            }
        }
        long[] abc = factors(naive, u, w, both, d);
        long whole = naive.product(naive.product(abc[0], u), pair[3]);
        whole = naive.sum(whole, naive.product(naive.product(abc[1], w), pair[1]));
        long squared = naive.sum(naive.product(pair[1], pair[3]), polynomial);
        whole = naive.sum(whole, naive.product(abc[2], squared));
        long newU = naive.exact(naive.product(u, w), naive.product(d, d));
        long newV = naive.rest(naive.exact(whole, d), newU);
        while (naive.degree(newU) > genus) {
            newU = naive.exact(naive.difference(polynomial, naive.product(newV, newV)), newU);
            newU = naive.lead(newU) == 2 ? naive.product(newU, 2) : newU;
            newV = naive.rest(naive.difference(0, newV), newU);
        }
        return new long[] {newU, newV};
    }

    /** The last a, b, c below x x that give d, so that they are others than the least ones. */
    private static long[] factors(Naive naive, long u, long w, long both, long d) {
        for (long a = 8; a >= 0; a--) {
            for (long b = 8; b >= 0; b--) {
                long part = naive.sum(naive.product(a, u), naive.product(b, w));
                for (long c = 8; c >= 0; c--) {
                    if (naive.sum(part, naive.product(c, both)) == d) {
                        return new long[] {a, b, c};
                    }
                }
            }
        }
        throw new IllegalStateException("no factors for " + u + ", " + w + ", " + both);
    }
}
