/**
 * The document's sentences on fields that name an edge, one test each: 'Terms', promises 1 to 12 and
 * 31. What is due is written out, so that it hangs on no other way of reckoning.
 */
public final class FieldEdgesTest {
    private static final int BAD = FieldCounts.BAD, STATE = FieldCounts.STATE;
    private static final int NONE = FieldCounts.NONE, NO = FieldCounts.NO;
    private static final int LEAST = Integer.MIN_VALUE, GREATEST = Integer.MAX_VALUE;
    private static final int CALLS_MOST = 512;

    private static final int[] PRIMES = Facts.PRIMES, FIELDS = Facts.FIELDS, D = Facts.D;
    private static final int[][] SIZES =
        {{3, 9, 27, 81, 243}, {5, 25, 125}, {7, 49, 343}, {11, 121}, {13, 169}};
    private static final int[][] MODULI =
        {{3, 10, 34, 86, 250}, {5, 27, 131}, {7, 50, 345}, {11, 122}, {13, 171}};
    /** Of the last number of each F(n): its square, what it is to be multiplied by to give 1, .. */
    private static final int[][] SQUARES =
        {{1, 6, 11, 22, 63}, {1, 14, 74}, {1, 14, 151}, {1, 22}, {1, 38}};
    private static final int[][] OVERS =
        {{2, 7, 17, 54, 152}, {4, 13, 96}, {6, 31, 37}, {10, 71}, {12, 121}};
    /** .. raised to the greatest int, .. */
    private static final int[][] POWERS =
        {{2, 7, 10, 14, 167}, {4, 12, 31}, {6, 13, 329}, {10, 91}, {12, 168}};
    private static final int[][] SIGNS =
        {{-1, -1, -1, -1, -1}, {1, -1, -1}, {-1, 1, -1}, {-1, -1}, {1, 1}};
    private static final int[][] TURNS =
        {{2, 8, 26, 80, 242}, {2, 24, 124}, {2, 24, 342}, {2, 40}, {2, 21}};
    private static final int[][] TRACES =
        {{2, 1, 1, 2, 0}, {4, 3, 4}, {6, 5, 4}, {10, 9}, {12, 11}};

    private final int p;
    private final int n;
    private final int size;
    private final int last;
    private final int prime;
    private final FieldCounts x = new FieldCounts();

    private FieldEdgesTest(int prime, int n) {
        this.prime = prime;
        this.n = n;
        p = PRIMES[prime];
        size = SIZES[prime][n - 1];
        last = size - 1;
        x.prime(p);
    }

    public static void main(String[] args) {
        aNewObject();
        whichPrimes();
        primeTakesTheCurves();
        fieldsGoAndCome();
        dOfEachPrime();
        theLastCall();
        for (int prime = 0; prime < PRIMES.length; prime++) {
            howManyFields(prime);
            told(prime);
            for (int n = 1; n <= FIELDS[prime]; n++) {
                new FieldEdgesTest(prime, n).field();
            }
        }
        Checks.finish();
    }

    private void field() {
        plus();
        times();
        sameInEachField();
        over();
        raise();
        sign();
        turns();
        trace();
        forms();
    }

    private void due(String call, long got, long want) {
        Checks.due(p + ", " + n + ": " + call, got, want);
    }

    /** Promise 1: "p is 3, no CURVES"; nothing has been refused or traced yet. */
    private static void aNewObject() {
        Checks.due("p of a new object", new FieldCounts().told(0), 3);
        Checks.due("CURVES of a new object", new FieldCounts().told(2), 0);
        Checks.due("knot of a new object", new FieldCounts().knot(), NONE);
        Checks.due("trace of a new object", new FieldCounts().traced(), 0L);
        Checks.due("about in a new object", new FieldCounts().about(0, 0), BAD);
        Checks.due("classes in a new object", new FieldCounts().classes(0), BAD);
        Checks.due("the first CURVE of a new object", new FieldCounts().curve(0, 30, 0), 0);
        FieldCounts used = new FieldCounts();
        used.prime(13);
        used.curve(0, 2198, 0);
        used.value(0, 1, 1);
        used.curve(0, 2197, 0);
        Checks.due("p beside a used one", new FieldCounts().told(0), 3);
        Checks.due("CURVES beside a used one", new FieldCounts().told(2), 0);
        Checks.due("knot beside a used one", new FieldCounts().knot(), NONE);
        Checks.due("trace beside a used one", new FieldCounts().traced(), 0L);
    }

    /** "p is 3, 5, 7, 11 or 13": no other int near them, and p stays where it is refused. */
    private static void whichPrimes() {
        for (int p = -400; p <= 400; p++) {
            int due = BAD;
            for (int prime = 0; prime < PRIMES.length; prime++) {
                due = PRIMES[prime] == p ? FIELDS[prime] : due;
            }
            FieldCounts x = new FieldCounts();
            x.prime(11);
            Checks.due("prime " + p, x.prime(p), due);
            Checks.due("p after prime " + p, x.told(0), due == BAD ? 11 : p);
        }
        Checks.due("prime of the least", new FieldCounts().prime(LEAST), BAD);
        Checks.due("prime of the greatest", new FieldCounts().prime(GREATEST), BAD);
    }

    /** Promise 2: "another one (or the same), CURVES are gone", when there are none, one or eight. */
    private static void primeTakesTheCurves() {
        for (int many : new int[] {0, 1, 8}) {
            for (int to : PRIMES) {
                FieldCounts x = new FieldCounts();
                for (int i = 0; i < many; i++) {
                    Checks.due("curve " + i, x.curve(0, 30, 0), i);
                }
                x.prime(to);
                Checks.due("CURVES after prime " + to, x.told(2), 0);
                Checks.due("about after prime " + to, x.about(0, 0), BAD);
                Checks.due("the last after prime " + to, x.about(many - 1, 0), BAD);
                int f = to * to * to + to;
                Checks.due("a first one after prime " + to, x.curve(1, f, 0), 0);
                Checks.due("its f", x.about(0, 1), f);
                Checks.due("its KIND", x.about(0, 0), 1);
                Checks.due("no second one", x.about(1, 0), BAD);
            }
        }
    }

    /** "n from 1 on as long as p^n is at most 343": 7^3 is 343 itself. */
    private static void howManyFields(int prime) {
        FieldCounts x = new FieldCounts();
        Checks.due("prime " + PRIMES[prime], x.prime(PRIMES[prime]), FIELDS[prime]);
        for (int n = 1; n <= FIELDS[prime]; n++) {
            Checks.due("size " + n, x.size(n), SIZES[prime][n - 1]);
            Checks.due("modulus " + n, x.modulus(n), MODULI[prime][n - 1]);
        }
        Checks.due("M(1) is x", x.modulus(1), PRIMES[prime]);
        for (int n : new int[] {0, -1, FIELDS[prime] + 1, FIELDS[prime] + 2, 6, LEAST, GREATEST}) {
            Checks.due("size " + n, x.size(n), BAD);
            Checks.due("modulus " + n, x.modulus(n), BAD);
        }
    }

    /** F(3) .. F(5) are there with one p, gone with another one, and there again. */
    private static void fieldsGoAndCome() {
        FieldCounts x = new FieldCounts();
        for (int prime : new int[] {0, 4, 0, 2, 3, 1, 4, 2, 0}) {
            x.prime(PRIMES[prime]);
            for (int n = 1; n <= 5; n++) {
                boolean there = n <= FIELDS[prime];
                int size = there ? SIZES[prime][n - 1] : 0;
                Checks.due("size by turns", x.size(n), there ? size : BAD);
                Checks.due("modulus by turns", x.modulus(n), there ? MODULI[prime][n - 1] : BAD);
                Checks.due("its last number", x.plus(n, size - 1, 0), there ? size - 1 : BAD);
                Checks.due("none behind it", x.plus(n, size, 0), BAD);
                int square = there ? SQUARES[prime][n - 1] : BAD;
                Checks.due("times by turns", x.times(n, size - 1, size - 1), square);
            }
        }
    }

    /** "D is the least number of F(1) with SIGN -1": 3 with 7 alone, and 2 again behind it. */
    private static void dOfEachPrime() {
        FieldCounts x = new FieldCounts();
        for (int prime : new int[] {2, 0, 2, 1, 2, 3, 2, 4, 0, 4, 2}) {
            int p = PRIMES[prime];
            x.prime(p);
            Checks.due("D by turns", x.told(3), D[prime]);
            Checks.due("TWIST by turns", x.curve(1, p * p * p + p, 0), 0);
            Checks.due("D times up", x.value(0, 1, 1), 2 * D[prime] % p);
        }
    }

    /** "An object is used for at most 512 calls": the 512th one is answered like the first. */
    private static void theLastCall() {
        FieldCounts x = new FieldCounts();
        x.prime(13);
        x.curve(1, 373529, 0);
        for (int call = 3; call <= CALLS_MOST - 2; call++) {
            Checks.due("call " + call, x.value(0, 2, 168), 15);
        }
        Checks.due("call 511", x.classes(0), 400);
        Checks.due("call 512", x.traced(), 11L * (CALLS_MOST - 4));
    }

    /** Promise 31: 0 .. 3, and no other what. */
    private static void told(int prime) {
        FieldCounts x = new FieldCounts();
        x.prime(PRIMES[prime]);
        Checks.due("told 0", x.told(0), PRIMES[prime]);
        Checks.due("told 1", x.told(1), FIELDS[prime]);
        Checks.due("told 2", x.told(2), 0);
        Checks.due("told 3", x.told(3), D[prime]);
        for (int what : new int[] {-1, 4, 5, LEAST, GREATEST}) {
            Checks.due("told " + what, x.told(what), BAD);
        }
    }

    /** Promise 5: "added place by place": no place comes to p or goes over to the next one. */
    private void plus() {
        due("0 and 0", x.plus(n, 0, 0), 0);
        due("the last and 0", x.plus(n, last, 0), last);
        due("0 and the last", x.plus(n, 0, last), last);
        due("the last and 1", x.plus(n, last, 1), size - p);
        due("1 and the last", x.plus(n, 1, last), size - p);
        due("the last, twice", x.plus(n, last, last), (p - 2) * (last / (p - 1)));
        due("first places", x.plus(n, size - size / p, size / p), 0);
        due("beyond", x.plus(n, size, 0), BAD);
        due("beyond, second", x.plus(n, 0, size), BAD);
    }

    /** Promise 6: 0 and 1, the last number, and x times x^(n - 1), the first that M(n) divides. */
    private void times() {
        due("0 by the last", x.times(n, 0, last), 0);
        due("the last by 0", x.times(n, last, 0), 0);
        due("1 by the last", x.times(n, 1, last), last);
        due("the last by 1", x.times(n, last, 1), last);
        due("the last by itself", x.times(n, last, last), SQUARES[prime][n - 1]);
        if (n > 1) {
            int rest = MODULI[prime][n - 1] - size;
            int folded = x.times(n, p, size / p);
            due("x by x^(n - 1), with what M(n) has below x^n", x.plus(n, folded, rest), 0);
        }
        due("beyond", x.times(n, size, 0), BAD);
        due("beyond, second", x.times(n, 0, size), BAD);
    }

    /** "A number of F(1) is the same one in each F(n)", up to p - 1. */
    private void sameInEachField() {
        for (int a : new int[] {0, 1, 2, p - 2, p - 1}) {
            for (int b : new int[] {0, 1, 2, p - 1}) {
                due("plus of F(1)", x.plus(n, a, b), (a + b) % p);
                due("times of F(1)", x.times(n, a, b), a * b % p);
            }
        }
    }

    /** Promise 7: STATE of 0 alone; 1 and p - 1 are their own. */
    private void over() {
        due("over 0", x.over(n, 0), STATE);
        due("over 1", x.over(n, 1), 1);
        due("over p - 1", x.over(n, p - 1), p - 1);
        due("over the last", x.over(n, last), OVERS[prime][n - 1]);
        due("over -1", x.over(n, -1), BAD);
        due("over beyond", x.over(n, size), BAD);
        due("over 0 of no F(n)", x.over(FIELDS[prime] + 1, 0), BAD);
        due("over 0 of F(0)", x.over(0, 0), BAD);
    }

    /** Promise 8: "e (0 or more; 1 for e 0)", of 0 too, and round again behind p^n - 1. */
    private void raise() {
        for (int a : new int[] {0, 1, p - 1, last}) {
            due(a + " to 0", x.raise(n, a, 0), 1);
            due(a + " to 1", x.raise(n, a, 1), a);
            due(a + " to p^n", x.raise(n, a, size), a);
            due(a + " to p^n - 1", x.raise(n, a, last), a == 0 ? 0 : 1);
            due(a + " to -1", x.raise(n, a, -1), BAD);
            due(a + " to the least", x.raise(n, a, LEAST), BAD);
        }
        due("0 to the greatest", x.raise(n, 0, GREATEST), 0);
        due("1 to the greatest", x.raise(n, 1, GREATEST), 1);
        due("p - 1 to the greatest", x.raise(n, p - 1, GREATEST), p - 1);
        due("p - 1 to the one before", x.raise(n, p - 1, GREATEST - 1), 1);
        due("the last to the greatest", x.raise(n, last, GREATEST), POWERS[prime][n - 1]);
        due("beyond to 0", x.raise(n, size, 0), BAD);
        due("-1 to 0", x.raise(n, -1, 0), BAD);
    }

    /** "THE SIGN: 0 of 0, 1 of what is a square there, else -1"; a refusal is NO, not -1. */
    private void sign() {
        due("sign of 0", x.sign(n, 0), 0);
        due("sign of 1", x.sign(n, 1), 1);
        due("sign of D", x.sign(n, D[prime]), n % 2 == 0 ? 1 : -1);
        for (int d = 1; d < D[prime]; d++) {
            due("sign below D", x.sign(n, d), 1);
        }
        due("sign of p - 1", x.sign(n, p - 1), n % 2 == 0 || p % 4 == 1 ? 1 : -1);
        due("sign of the last", x.sign(n, last), SIGNS[prime][n - 1]);
        due("sign of -1", x.sign(n, -1), NO);
        due("sign beyond", x.sign(n, size), NO);
        due("sign in F(0)", x.sign(0, 0), NO);
        due("sign in no F(n)", x.sign(FIELDS[prime] + 1, 0), NO);
    }

    /** Promise 10: "the least e, 1 or more": 1 of 1, 2 of p - 1, p^n - 1 at most; STATE of 0. */
    private void turns() {
        due("turns of 0", x.turns(n, 0), STATE);
        due("turns of 1", x.turns(n, 1), 1);
        due("turns of p - 1", x.turns(n, p - 1), 2);
        due("turns of the last", x.turns(n, last), TURNS[prime][n - 1]);
        due("turns of -1", x.turns(n, -1), BAD);
        due("turns beyond", x.turns(n, size), BAD);
        due("turns of 0 of no F(n)", x.turns(FIELDS[prime] + 1, 0), BAD);
        due("turns of 0 of F(0)", x.turns(0, 0), BAD);
    }

    /** Promise 11: "n of them (one of F(1))": of 1 it is n, round again behind p - 1. */
    private void trace() {
        due("trace of 0", x.trace(n, 0), 0);
        due("trace of 1", x.trace(n, 1), n % p);
        due("trace of p - 1", x.trace(n, p - 1), (p - 1) * n % p);
        due("trace of the last", x.trace(n, last), TRACES[prime][n - 1]);
        due("trace of -1", x.trace(n, -1), BAD);
        due("trace beyond", x.trace(n, size), BAD);
        due("trace in F(1)", x.trace(1, p - 1), p - 1);
    }

    /** Promise 12: with a, b, c of 0 and 1, all pairs or none may be such ones. */
    private void forms() {
        due("0, 0, 0", x.forms(n, 0, 0, 0), size * size);
        due("0, 0, 1", x.forms(n, 0, 0, 1), 0);
        due("0, 0, the last", x.forms(n, 0, 0, last), 0);
        due("1, 0, 0", x.forms(n, 1, 0, 0), size);
        due("0, 1, 0", x.forms(n, 0, 1, 0), size);
        due("1, 0, 1", x.forms(n, 1, 0, 1), 2 * size);
        due("0, 1, 1", x.forms(n, 0, 1, 1), 2 * size);
        due("1, 0, D", x.forms(n, 1, 0, D[prime]), n % 2 == 0 ? 2 * size : 0);
        due("0, the last, the last", x.forms(n, 0, last, last), 2 * size);
        due("1, p - 1, 0: two lines", x.forms(n, 1, p - 1, 0), 2 * size - 1);
        due("1, p - 1, 1", x.forms(n, 1, p - 1, 1), size - 1);
        due("1, p - D, 0", x.forms(n, 1, p - D[prime], 0), n % 2 == 0 ? 2 * size - 1 : 1);
        due("a beyond", x.forms(n, size, 0, 0), BAD);
        due("b beyond", x.forms(n, 0, size, 0), BAD);
        due("c beyond", x.forms(n, 0, 0, size), BAD);
        due("c of -1", x.forms(n, 0, 0, -1), BAD);
    }
}
