import java.util.Arrays;

/** Curves y y = f(x), counted over fields of p, p p, .. numbers by going through all of them. */
public final class FieldCounts {
    public static final int BAD = -1, STATE = -2, FULL = -3, NONE = -9;
    public static final int NO = -1000000000;

    private static final int PLAIN = 0, TWIST = 1, MOVED = 2;
    /** What one value() brings to THE TRACE: the KIND's own body and those that stand over it. */
    private static final int[] TRACES = {1, 11, 111};
    private static final int[] PRIMES = {3, 5, 7, 11, 13};
    private static final int PRIME_AT_FIRST = 3;
    private static final int FIELDS_MOST = 5, SIZE_MOST = 343, CURVES_MOST = 8;
    private static final int DEGREE_LEAST = 3, DEGREE_MOST = 6, GENUS_MOST = 2;
    private static final int FURTHER_MOST = 12, FROM_MOST = 1000000, MANY_MOST = 100;
    /** A CURVE of GENUS g has at most (1 + root of p)^(2 g) CLASSES: fewer than 450 for 13 and 2. */
    private static final int CLASSES_MOST = 450;
    /** No int has more places than this, p being 3 or more. */
    private static final int PLACES = 20;

    private final Polynomials ring = new Polynomials();
    private final Field[] fields = new Field[FIELDS_MOST];
    private final Curve[] curves = new Curve[CURVES_MOST];
    private final int[] tally = new int[SIZE_MOST];
    private final long[] powerSums = new long[FURTHER_MOST + 1];
    private int fieldCount;
    private int curveCount;
    private int leastNonSquare;
    private int knot = NONE;
    private long trace;

    public FieldCounts() {
        for (int i = 0; i < fields.length; i++) {
            fields[i] = new Field(ring, i + 1);
        }
        for (int i = 0; i < curves.length; i++) {
            curves[i] = new Curve(ring);
        }
        start(PRIME_AT_FIRST);
    }

    // ---- fields

    public int prime(int p) {
        for (int known : PRIMES) {
            if (known == p) {
                start(p);
                return fieldCount;
            }
        }
        return BAD;
    }

    public int size(int n) {
        Field field = fieldAt(n);
        return field == null ? BAD : field.size;
    }

    public int modulus(int n) {
        Field field = fieldAt(n);
        return field == null ? BAD : field.divisor;
    }

    public int plus(int n, int a, int b) {
        Field field = fieldAt(n);
        if (field == null || !field.has(a) || !field.has(b)) {
            return BAD;
        }
        return ring.sum(a, b);
    }

    public int times(int n, int a, int b) {
        Field field = fieldAt(n);
        if (field == null || !field.has(a) || !field.has(b)) {
            return BAD;
        }
        return field.product(a, b);
    }

    public int over(int n, int a) {
        Field field = fieldAt(n);
        if (field == null || !field.has(a)) {
            return BAD;
        }
        return a == 0 ? STATE : field.power(a, field.units - 1);
    }

    public int raise(int n, int a, int e) {
        Field field = fieldAt(n);
        if (field == null || !field.has(a) || e < 0) {
            return BAD;
        }
        return field.power(a, e);
    }

    public int sign(int n, int a) {
        Field field = fieldAt(n);
        if (field == null || !field.has(a)) {
            return NO;
        }
        return field.squareSign(a);
    }

    public int turns(int n, int a) {
        Field field = fieldAt(n);
        if (field == null || !field.has(a)) {
            return BAD;
        }
        return a == 0 ? STATE : field.turnsOf(a);
    }

    public int trace(int n, int a) {
        Field field = fieldAt(n);
        if (field == null || !field.has(a)) {
            return BAD;
        }
        int sum = 0;
        int power = a;
        for (int i = 0; i < n; i++) {
            sum = ring.sum(sum, power);
            power = field.power(power, ring.p);
        }
        return sum;
    }

    public int forms(int n, int a, int b, int c) {
        Field field = fieldAt(n);
        if (field == null || !field.has(a) || !field.has(b) || !field.has(c)) {
            return BAD;
        }
        Arrays.fill(tally, 0);
        for (int x = 0; x < field.size; x++) {
            int left = field.product(a, field.product(x, x));
            put(tally, left, at(tally, left) + 1);
        }
        int pairs = 0;
        for (int y = 0; y < field.size; y++) {
            pairs += at(tally, ring.difference(c, field.product(b, field.product(y, y))));
        }
        return pairs;
    }

    // ---- curves

    public int curve(int kind, int f, int t) {
        if (kind < PLAIN || kind > MOVED || !isCurvePolynomial(f)) {
            return BAD;
        }
        if (kind == MOVED && (t < 0 || t >= ring.p)) {
            return BAD;
        }
        int common = ring.knotOf(f);
        if (ring.degree(common) > 0) {
            knot = common;
            return STATE;
        }
        knot = NONE;
        if (curveCount >= curves.length) {
            return FULL;
        }
        curves[curveCount].begin(kind, f, t, leastNonSquare);
        curveCount++;
        return curveCount - 1;
    }

    public int knot() {
        return knot;
    }

    public int about(int curve, int what) {
        Curve asked = curveAt(curve);
        if (asked == null) {
            return BAD;
        }
        switch (what) {
            case 0: return asked.kind;
            case 1: return asked.f;
            case 2: return asked.t;
            case 3: return asked.degree;
            case 4: return asked.genus;
            case 5: return asked.polynomial;
            default: return BAD;
        }
    }

    public int value(int curve, int n, int x) {
        Curve asked = curveAt(curve);
        Field field = fieldAt(n);
        if (asked == null || field == null || !field.has(x)) {
            return BAD;
        }
        trace += at(TRACES, asked.kind);
        return field.valueOf(asked.polynomial, x);
    }

    public int count(int curve, int n) {
        Curve asked = curveAt(curve);
        Field field = fieldAt(n);
        if (asked == null || field == null) {
            return BAD;
        }
        return field.pointsOf(asked.polynomial);
    }

    public int beyond(int curve, int n) {
        Curve asked = curveAt(curve);
        Field field = fieldAt(n);
        if (asked == null || field == null) {
            return BAD;
        }
        return field.pointsBeyond(asked.polynomial);
    }

    public int share(int curve, int i) {
        Curve asked = curveAt(curve);
        if (asked == null || i < 0 || i > 2 * asked.genus) {
            return NO;
        }
        return at(shareOf(asked), i);
    }

    public long further(int curve, int n) {
        Curve asked = curveAt(curve);
        if (asked == null || n < 1 || n > FURTHER_MOST) {
            return BAD;
        }
        int[] s = shareOf(asked);
        long size = 1;
        for (int m = 1; m <= n; m++) {
            size *= ring.p;
            long sum = (long) m * at(s, m);
            for (int j = 1; j < m; j++) {
                sum += at(s, j) * powerSums[m - j];
            }
            powerSums[m] = -sum;
        }
        return size + 1 - powerSums[n];
    }

    public int whole(int curve) {
        Curve asked = curveAt(curve);
        if (asked == null) {
            return BAD;
        }
        int sum = 0;
        for (int s : shareOf(asked)) {
            sum += s;
        }
        return sum;
    }

    public int bound(int g) {
        if (g < 1 || g > GENUS_MOST) {
            return BAD;
        }
        int limit = 4 * g * g * ring.p;
        int root = 0;
        while (root < limit && (root + 1) * (root + 1) <= limit) {
            root++;
        }
        return root;
    }

    public int surface(int curve, int other, int n) {
        Curve one = curveAt(curve);
        Curve two = curveAt(other);
        Field field = fieldAt(n);
        if (one == null || two == null || field == null) {
            return BAD;
        }
        // A product of values has 1 + SIGN roots z, and its SIGN is the product of the two SIGNS.
        int signs = field.signSum(one.polynomial) * field.signSum(two.polynomial);
        return field.size * field.size + signs;
    }

    public int best(int degree, int from, int many) {
        Field field = fieldAt(1);
        if (field == null || degree < DEGREE_LEAST || degree > DEGREE_MOST || from < 0
                || from > FROM_MOST || many < 1 || many > MANY_MOST) {
            return BAD;
        }
        int first = Math.max(from, ring.place(degree));
        int end = Math.min(from + many, ring.place(degree + 1));
        int best = NONE;
        int most = -1;
        for (int f = first; f < end; f++) {
            if (ring.degree(ring.knotOf(f)) == 0) {
                int points = field.pointsOf(f);
                if (points > most) {
                    most = points;
                    best = f;
                }
            }
        }
        return best;
    }

    // ---- classes

    public int isClass(int curve, int u, int v) {
        ClassList list = listAt(curve);
        if (list == null || u < 0 || v < 0) {
            return BAD;
        }
        return list.holds(u, v) ? 1 : 0;
    }

    public int classes(int curve) {
        ClassList list = listAt(curve);
        return list == null ? BAD : list.many();
    }

    public int classAt(int curve, int i, int what) {
        ClassList list = listAt(curve);
        if (list == null || i < 0 || what < 0 || what > 1) {
            return BAD;
        }
        if (i >= list.many()) {
            return NONE;
        }
        int key = list.keyAt(i);
        return what == 0 ? list.uOf(key) : list.vOf(key);
    }

    public int add(int curve, int i, int k) {
        ClassList list = listAt(curve);
        if (list == null || !list.reaches(i) || !list.reaches(k)) {
            return BAD;
        }
        return list.placeOf(list.sumOf(list.keyAt(i), list.keyAt(k)));
    }

    public int minus(int curve, int i) {
        ClassList list = listAt(curve);
        if (list == null || !list.reaches(i)) {
            return BAD;
        }
        return list.placeOf(list.oppositeOf(list.keyAt(i)));
    }

    public int order(int curve, int i) {
        ClassList list = listAt(curve);
        if (list == null || !list.reaches(i)) {
            return BAD;
        }
        return list.orderOf(list.keyAt(i));
    }

    // ---- what is told

    public int told(int what) {
        switch (what) {
            case 0: return ring.p;
            case 1: return fieldCount;
            case 2: return curveCount;
            case 3: return leastNonSquare;
            default: return BAD;
        }
    }

    public long traced() {
        return trace;
    }

    // ---- helpers

    private void start(int p) {
        ring.begin(p);
        curveCount = 0;
        fieldCount = 1;
        while (fieldCount < FIELDS_MOST && ring.place(fieldCount + 1) <= SIZE_MOST) {
            fieldCount++;
        }
        Field field = fieldAt(1);
        leastNonSquare = 1;
        while (field != null && leastNonSquare < p && field.squareSign(leastNonSquare) != -1) {
            leastNonSquare++;
        }
    }

    /** F(n), made ready for p; null if there is none. */
    private Field fieldAt(int n) {
        if (n < 1 || n > fieldCount || n > fields.length) {
            return null;
        }
        Field field = fields[n - 1];
        field.fit();
        return field;
    }

    private Curve curveAt(int curve) {
        return curve < 0 || curve >= curveCount || curve >= curves.length ? null : curves[curve];
    }

    /** The CLASSES of a CURVE of an odd degree; null if there is no such CURVE. */
    private ClassList listAt(int curve) {
        Curve asked = curveAt(curve);
        return asked == null || asked.degree % 2 == 0 ? null : asked.list;
    }

    private boolean isCurvePolynomial(int f) {
        return f >= ring.place(DEGREE_LEAST) && f < ring.place(DEGREE_MOST + 1);
    }

    private int[] shareOf(Curve asked) {
        Field one = fieldAt(1);
        Field two = fieldAt(2);
        if (!asked.shareKnown && one != null && two != null) {
            asked.makeShare(one, two);
        }
        return asked.share;
    }

    /** What stands in a row, 0 beyond it. */
    private static int at(int[] row, int i) {
        return i >= 0 && i < row.length ? row[i] : 0;
    }

    private static void put(int[] row, int i, int number) {
        if (i >= 0 && i < row.length) {
            row[i] = number;
        }
    }

    /**
     * POLYNOMIALS, told as numbers. The largest ones on the way have degree 6 (8 for p = 3), so
     * that all of them are ints.
     */
    private static final class Polynomials {
        private int p = PRIME_AT_FIRST;

        /** Everything here divides by p, so it is never less than 2. */
        void begin(int prime) {
            p = Math.max(2, prime);
        }

        /** The number of x^k. */
        int place(int k) {
            int place = 1;
            for (int i = 0; i < k; i++) {
                place *= p;
            }
            return place;
        }

        int coefficient(int a, int k) {
            int left = a;
            for (int i = 0; i < k; i++) {
                left /= p;
            }
            return left % p;
        }

        /** The degree; 0 of 0, too. */
        int degree(int a) {
            int degree = 0;
            for (int left = a / p; left > 0 && degree < PLACES; left /= p) {
                degree++;
            }
            return degree;
        }

        /** The first coefficient; 0 of 0. */
        int lead(int a) {
            int left = a;
            for (int i = 0; i < PLACES && left >= p; i++) {
                left /= p;
            }
            return left;
        }

        int sum(int a, int b) {
            int leftA = a;
            int leftB = b;
            int place = 1;
            int sum = 0;
            for (int i = 0; i < PLACES && leftA > 0 && leftB > 0; i++) {
                sum += (leftA % p + leftB % p) % p * place;
                leftA /= p;
                leftB /= p;
                place *= p;
            }
            return sum + (leftA + leftB) * place;
        }

        int difference(int a, int b) {
            int leftA = a;
            int leftB = b;
            int place = 1;
            int difference = 0;
            for (int i = 0; i < PLACES && leftB > 0; i++) {
                difference += (leftA % p + p - leftB % p) % p * place;
                leftA /= p;
                leftB /= p;
                place *= p;
            }
            return difference + leftA * place;
        }

        /** A POLYNOMIAL times a number of F(1). */
        int scaled(int a, int c) {
            int left = c == 0 ? 0 : a;
            int place = 1;
            int scaled = 0;
            for (int i = 0; i < PLACES && left > 0; i++) {
                scaled += left % p * c % p * place;
                left /= p;
                place *= p;
            }
            return scaled;
        }

        int product(int a, int b) {
            int left = b;
            int place = 1;
            int product = 0;
            for (int i = 0; i < PLACES && left > 0; i++) {
                product = sum(product, scaled(a, left % p) * place);
                left /= p;
                place *= p;
            }
            return product;
        }

        /** The number of F(1) by which c gives 1; 0 of 0. */
        int inverse(int c) {
            for (int i = 1; i < p; i++) {
                if (c * i % p == 1) {
                    return i;
                }
            }
            return 0;
        }

        /** a divided by b; 0 if b is 0. */
        int quotient(int a, int b) {
            int low = degree(b);
            int inverse = inverse(lead(b));
            int left = a;
            int quotient = 0;
            for (int k = degree(a) - low; k >= 0 && inverse != 0; k--) {
                int c = coefficient(left, low + k) * inverse % p;
                quotient += c * place(k);
                left = difference(left, scaled(b, c) * place(k));
            }
            return quotient;
        }

        /** What is left of a divided by b; a if b is 0. */
        int rest(int a, int b) {
            int low = degree(b);
            int inverse = inverse(lead(b));
            int left = a;
            for (int k = degree(a) - low; k >= 0 && inverse != 0; k--) {
                int c = coefficient(left, low + k) * inverse % p;
                left = difference(left, scaled(b, c) * place(k));
            }
            return left;
        }

        int monic(int a) {
            return scaled(a, inverse(lead(a)));
        }

        /** The greatest common divisor, with 1 as its first coefficient; 0 if both are 0. */
        int commonDivisor(int a, int b) {
            int one = a;
            int next = b;
            for (int i = 0; i < PLACES && next != 0; i++) {
                int left = rest(one, next);
                one = next;
                next = left;
            }
            return monic(one);
        }

        /** By what a is to be multiplied to be the common divisor of a and b, but for b's multiples. */
        int cofactor(int a, int b) {
            int one = a;
            int next = b;
            int factor = 1;
            int nextFactor = 0;
            for (int i = 0; i < PLACES && next != 0; i++) {
                int quotient = quotient(one, next);
                int left = difference(one, product(quotient, next));
                int leftFactor = difference(factor, product(quotient, nextFactor));
                one = next;
                next = left;
                factor = nextFactor;
                nextFactor = leftFactor;
            }
            return scaled(factor, inverse(lead(one)));
        }

        int derivative(int a) {
            int derivative = 0;
            for (int k = degree(a); k > 0; k--) {
                derivative += coefficient(a, k) * k % p * place(k - 1);
            }
            return derivative;
        }

        /** The common divisor of f and its derivative: a KNOT, if it has a degree above 0. */
        int knotOf(int f) {
            return commonDivisor(f, derivative(f));
        }

        /** The POLYNOMIAL that has at x the value of f at x + t. */
        int movedBy(int f, int t) {
            int moved = 0;
            for (int k = degree(f); k >= 0; k--) {
                moved = sum(product(moved, p + t), coefficient(f, k));
            }
            return moved;
        }

        /**
         * What is left of v v by u, for a u of degree 2 at most with 1 as its first coefficient and
         * a v of lesser degree: x x is - a x - b by u. Written out, as all pairs go through it.
         */
        int squareRest(int v, int u) {
            int v1 = v / p;
            int v0 = v % p;
            int minusA = p - u / p % p;
            int minusB = p - u % p;
            int high = v1 * (2 * v0 + minusA * v1) % p;
            int low = (v0 * v0 + minusB * v1 * v1) % p;
            return high * p + low;
        }

        /** Whether u of degree n is a product: then one of its divisors has degree n / 2 at most. */
        boolean isProduct(int u, int n) {
            for (int d = 1; d <= n / 2; d++) {
                int first = place(d);
                for (int w = first; w < 2 * first; w++) {
                    if (rest(u, w) == 0) {
                        return true;
                    }
                }
            }
            return false;
        }
    }

    /** F(n), held as the powers of one of its numbers: products are sums of exponents. */
    private static final class Field {
        private final Polynomials ring;
        private final int n;
        private final int[] powers = new int[SIZE_MOST];
        private final int[] exponents = new int[SIZE_MOST];
        private int madeFor = 0;
        private int size = 2;
        private int units = 1;
        /** M(n). */
        private int divisor = 0;

        Field(Polynomials ring, int n) {
            this.ring = ring;
            this.n = n;
        }

        /** Makes the rows anew, if p is another one than that they were made for. */
        void fit() {
            if (madeFor == ring.p) {
                return;
            }
            madeFor = ring.p;
            size = ring.place(n);
            units = Math.max(1, size - 1);
            divisor = size;
            while (divisor < 2 * size && ring.isProduct(divisor, n)) {
                divisor++;
            }
            int base = 1;
            while (base < size && walk(base) != units) {
                base++;
            }
            for (int e = 0; e < units; e++) {
                put(exponents, at(powers, e), e);
            }
        }

        /** Writes down the powers of a number until they come to 1 again: how many there are. */
        int walk(int base) {
            int power = 1;
            for (int e = 0; e < units; e++) {
                put(powers, e, power);
                power = ring.rest(ring.product(power, base), divisor);
                if (power == 1) {
                    return e + 1;
                }
            }
            return 0;
        }

        boolean has(int a) {
            return a >= 0 && a < size;
        }

        int product(int a, int b) {
            if (a == 0 || b == 0) {
                return 0;
            }
            return at(powers, (at(exponents, a) + at(exponents, b)) % units);
        }

        int power(int a, int e) {
            if (e == 0) {
                return 1;
            }
            return a == 0 ? 0 : at(powers, (int) ((long) at(exponents, a) * e % units));
        }

        /** All numbers but 0 are powers of one of them; the even powers are the squares. */
        int squareSign(int a) {
            if (a == 0) {
                return 0;
            }
            return at(exponents, a) % 2 == 0 ? 1 : -1;
        }

        int turnsOf(int a) {
            int e = 1;
            while (e < units && at(exponents, a) * e % units != 0) {
                e++;
            }
            return e;
        }

        int valueOf(int polynomial, int x) {
            int sum = 0;
            for (int k = ring.degree(polynomial); k >= 0; k--) {
                sum = ring.sum(product(sum, x), ring.coefficient(polynomial, k));
            }
            return sum;
        }

        /** The sum of THE SIGNS of all values. */
        int signSum(int polynomial) {
            int sum = 0;
            for (int x = 0; x < size; x++) {
                sum += squareSign(valueOf(polynomial, x));
            }
            return sum;
        }

        int pointsBeyond(int polynomial) {
            if (ring.degree(polynomial) % 2 == 1) {
                return 1;
            }
            return squareSign(ring.lead(polynomial)) == 1 ? 2 : 0;
        }

        /** COUNT: 2, 1, 0 points at an x are 1 and THE SIGN there. */
        int pointsOf(int polynomial) {
            return size + signSum(polynomial) + pointsBeyond(polynomial);
        }
    }

    private static final class Curve {
        private final Polynomials ring;
        private final ClassList list;
        private final int[] share = new int[2 * GENUS_MOST + 1];
        private boolean shareKnown;
        private int kind;
        private int f;
        private int t;
        private int degree;
        private int genus;
        private int polynomial;

        Curve(Polynomials ring) {
            this.ring = ring;
            this.list = new ClassList(ring);
        }

        void begin(int itsKind, int itsF, int itsT, int nonSquare) {
            kind = itsKind;
            f = itsF;
            t = itsKind == MOVED ? itsT : 0;
            degree = ring.degree(itsF);
            genus = degree <= 4 ? 1 : 2;
            polynomial = ring.movedBy(kind >= TWIST ? ring.scaled(f, nonSquare) : f, t);
            shareKnown = false;
            list.begin(polynomial, genus);
        }

        void makeShare(Field one, Field two) {
            int p = ring.p;
            int s = one.pointsOf(polynomial) - p - 1;
            Arrays.fill(share, 0);
            put(share, 0, 1);
            put(share, 1, s);
            if (genus == 2) {
                put(share, 2, (two.pointsOf(polynomial) - p * p - 1 + s * s) / 2);
            }
            for (int i = 0; i < genus; i++) {
                put(share, 2 * genus - i, ring.place(genus - i) * at(share, i));
            }
            shareKnown = true;
        }
    }

    /**
     * The CLASSES of a CURVE of an odd degree. A pair (u, v) is kept as one key, u p p + v, so that
     * the keys have the order of the pairs.
     */
    private static final class ClassList {
        private final Polynomials ring;
        private final int[] keys = new int[CLASSES_MOST];
        private int polynomial;
        private int genus = 1;
        /** 0 until the list is made, as (1, 0) is always in it. */
        private int listed;

        ClassList(Polynomials ring) {
            this.ring = ring;
        }

        void begin(int itsPolynomial, int itsGenus) {
            polynomial = itsPolynomial;
            genus = itsGenus;
            listed = 0;
        }

        boolean holds(int u, int v) {
            for (int d = 0; d <= genus; d++) {
                int first = ring.place(d);
                if (u >= first && u < 2 * first) {
                    return v < first && ring.squareRest(v, u) == ring.rest(polynomial, u);
                }
            }
            return false;
        }

        int many() {
            if (listed == 0) {
                goThrough();
            }
            return listed;
        }

        boolean reaches(int i) {
            return i >= 0 && i < many();
        }

        int keyAt(int i) {
            return at(keys, i);
        }

        int keyOf(int u, int v) {
            return u * ring.p * ring.p + v;
        }

        int uOf(int key) {
            return key / ring.p / ring.p;
        }

        int vOf(int key) {
            return key % (ring.p * ring.p);
        }

        /** Which CLASS a key is. */
        int placeOf(int key) {
            for (int i = 0; i < listed; i++) {
                if (at(keys, i) == key) {
                    return i;
                }
            }
            return NONE;
        }

        int oppositeOf(int key) {
            return keyOf(uOf(key), ring.difference(0, vOf(key)));
        }

        /** How many there are is a multiple of what is asked, so only its divisors are tried. */
        int orderOf(int key) {
            int order = many();
            int left = order;
            for (int prime = 2; prime <= left; prime++) {
                while (left > 1 && left % prime == 0) {
                    left /= prime;
                    if (multipleOf(key, order / prime) == keyOf(1, 0)) {
                        order /= prime;
                    }
                }
            }
            return order;
        }

        /** A CLASS added up so often, by doubling. */
        int multipleOf(int key, int often) {
            int sum = keyOf(1, 0);
            int doubled = key;
            for (int left = often; left > 0; left /= 2) {
                if (left % 2 == 1) {
                    sum = sumOf(sum, doubled);
                }
                doubled = sumOf(doubled, doubled);
            }
            return sum;
        }

        int sumOf(int one, int other) {
            int u = uOf(one);
            int v = vOf(one);
            int w = uOf(other);
            int z = vOf(other);
            int both = ring.commonDivisor(u, w);
            int ofU = ring.cofactor(u, w);
            int ofW = ring.quotient(ring.difference(both, ring.product(ofU, u)), w);
            int values = ring.sum(v, z);
            int d = ring.commonDivisor(both, values);
            int ofBoth = ring.cofactor(both, values);
            int c = ring.quotient(ring.difference(d, ring.product(ofBoth, both)), values);
            int crossed = ring.sum(ring.product(ring.product(ofU, u), z),
                    ring.product(ring.product(ofW, w), v));
            int squared = ring.sum(ring.product(v, z), polynomial);
            int whole = ring.sum(ring.product(ofBoth, crossed), ring.product(c, squared));
            int newU = ring.quotient(ring.product(u, w), ring.product(d, d));
            return reduced(newU, ring.rest(ring.quotient(whole, d), newU));
        }

        /** Brings a pair down to a u of degree GENUS at most; one turn takes degree 4 below 3. */
        private int reduced(int firstU, int firstV) {
            int u = firstU;
            int v = firstV;
            for (int turn = 0; turn < PLACES && ring.degree(u) > genus; turn++) {
                u = ring.monic(ring.quotient(ring.difference(polynomial, ring.product(v, v)), u));
                v = ring.rest(ring.difference(0, v), u);
            }
            return keyOf(u, v);
        }

        private void goThrough() {
            for (int d = 0; d <= genus; d++) {
                int first = ring.place(d);
                for (int u = first; u < 2 * first; u++) {
                    listWith(u, first);
                }
            }
        }

        /** Lists the pairs with this u; end is the first v that has no lesser degree. */
        private void listWith(int u, int end) {
            int due = ring.rest(polynomial, u);
            for (int v = 0; v < end && listed < keys.length; v++) {
                if (ring.squareRest(v, u) == due) {
                    keys[listed] = keyOf(u, v);
                    listed++;
                }
            }
        }
    }
}
