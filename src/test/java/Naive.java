/**
 * The document's terms once more, by rows of coefficients and by going through everything, without
 * anything of the class under test: what its answers are compared with.
 */
final class Naive {
    static final int[] PRIMES = {3, 5, 7, 11, 13};
    final int p;

    Naive(int p) {
        this.p = p;
    }

    /** How many FIELDS there are. */
    int fields() {
        int n = 0;
        for (int size = p; size <= 343; size *= p) {
            n++;
        }
        return n;
    }

    int power(int base, int e) {
        int result = 1;
        for (int i = 0; i < e; i++) {
            result *= base;
        }
        return result;
    }

    int[] row(long number) {
        int[] row = new int[degree(number) + 1];
        long left = number;
        for (int i = 0; i < row.length; i++) {
            row[i] = (int) (left % p);
            left /= p;
        }
        return row;
    }

    long number(int[] row) {
        long number = 0;
        for (int i = row.length - 1; i >= 0; i--) {
            number = number * p + Math.floorMod(row[i], p);
        }
        return number;
    }

    /** -1 of 0. */
    int degree(long number) {
        int degree = -1;
        for (long left = number; left > 0; left /= p) {
            degree++;
        }
        return degree;
    }

    int lead(long number) {
        int[] row = row(number);
        return row.length == 0 ? 0 : row[row.length - 1];
    }

    long sum(long a, long b) {
        return combined(a, b, 1);
    }

    long difference(long a, long b) {
        return combined(a, b, -1);
    }

    private long combined(long a, long b, int factor) {
        int[] one = row(a);
        int[] two = row(b);
        int[] sum = new int[Math.max(one.length, two.length)];
        for (int i = 0; i < sum.length; i++) {
            sum[i] = (i < one.length ? one[i] : 0) + factor * (i < two.length ? two[i] : 0);
        }
        return number(sum);
    }

    long product(long a, long b) {
        int[] one = row(a);
        int[] two = row(b);
        int[] product = new int[one.length + two.length + 1];
        for (int i = 0; i < one.length; i++) {
            for (int k = 0; k < two.length; k++) {
                product[i + k] += one[i] * two[k];
            }
        }
        return number(product);
    }

    /** a without multiples of b, by taking b times any number of F(1) and power of x away. */
    long rest(long a, long b) {
        long left = a;
        while (left > 0 && degree(left) >= degree(b)) {
            long shifted = product(b, power(p, degree(left) - degree(b)));
            while (left > 0 && degree(left) == degree(shifted)) {
                left = difference(left, shifted);
            }
        }
        return left;
    }

    /** a divided by b, which divides it. */
    long exact(long a, long b) {
        if (a == 0) {
            return 0;
        }
        int d = degree(a) - degree(b);
        for (long q = power(p, d); q < power(p, d + 1); q++) {
            if (product(q, b) == a) {
                return q;
            }
        }
        throw new IllegalStateException(b + " does not divide " + a + " for " + p);
    }

    /** How often b goes into a, a power of x at a time. */
    long quotient(long a, long b) {
        long left = a;
        long quotient = 0;
        while (left > 0 && degree(left) >= degree(b)) {
            long power = power(p, degree(left) - degree(b));
            quotient = sum(quotient, power);
            left = difference(left, product(b, power));
        }
        return quotient;
    }

    /** The number of F(1) by which c gives 1. */
    int over(int c) {
        int over = 1;
        while (c * over % p != 1) {
            over++;
        }
        return over;
    }

    /** The greatest common divisor d, and a and b with d = a one + b two. */
    long[] common(long one, long two) {
        long[] last = {one, 1, 0};
        long[] next = {two, 0, 1};
        while (next[0] != 0) {
            long quotient = quotient(last[0], next[0]);
            long[] left = new long[3];
            for (int i = 0; i < 3; i++) {
                left[i] = difference(last[i], product(quotient, next[i]));
            }
            last = next;
            next = left;
        }
        int over = over(lead(last[0]));
        return new long[] {product(last[0], over), product(last[1], over), product(last[2], over)};
    }

    /** M(n), by striking out the products of all pairs of lesser degrees. */
    int modulus(int n) {
        int first = power(p, n);
        boolean[] struck = new boolean[first];
        for (int d = 1; d < n; d++) {
            for (int a = power(p, d); a < 2 * power(p, d); a++) {
                for (int b = power(p, n - d); b < 2 * power(p, n - d); b++) {
                    struck[(int) product(a, b) - first] = true;
                }
            }
        }
        int least = 0;
        while (struck[least]) {
            least++;
        }
        return first + least;
    }

    /** The whole table of products of F(n). */
    int[][] table(int n) {
        int size = power(p, n);
        int modulus = modulus(n);
        int[][] table = new int[size][size];
        for (int a = 0; a < size; a++) {
            for (int b = 0; b <= a; b++) {
                table[a][b] = (int) rest(product(a, b), modulus);
                table[b][a] = table[a][b];
            }
        }
        return table;
    }

    /** THE SIGN of each number, from the table of products. */
    int[] signs(int[][] table) {
        int[] signs = new int[table.length];
        for (int a = 1; a < signs.length; a++) {
            signs[a] = -1;
        }
        for (int a = 1; a < signs.length; a++) {
            signs[table[a][a]] = 1;
        }
        return signs;
    }

    /** D: the least number that no x x is. */
    int nonSquare() {
        for (int d = 1; d < p; d++) {
            boolean square = false;
            for (int x = 0; x < p; x++) {
                square |= x * x % p == d;
            }
            if (!square) {
                return d;
            }
        }
        throw new IllegalStateException();
    }

    long derivative(long f) {
        int[] row = row(f);
        int[] derivative = new int[row.length];
        for (int i = 1; i < row.length; i++) {
            derivative[i - 1] = i * row[i];
        }
        return number(derivative);
    }

    /** The common divisor of f and its derivative, by trying all, the highest degree first. */
    long knot(long f) {
        long derivative = derivative(f);
        for (int d = degree(f); d > 0; d--) {
            for (long u = power(p, d); u < 2L * power(p, d); u++) {
                if (rest(f, u) == 0 && rest(derivative, u) == 0) {
                    return u;
                }
            }
        }
        return 1;
    }

    /** Whether a square of a POLYNOMIAL divides f: just then there is a KNOT. */
    boolean hasKnot(long f) {
        for (int d = 1; 2 * d <= degree(f); d++) {
            for (long u = power(p, d); u < 2L * power(p, d); u++) {
                if (rest(f, product(u, u)) == 0) {
                    return true;
                }
            }
        }
        return false;
    }

    /** A POLYNOMIAL without KNOT of a degree, from a number on; all first coefficients come up. */
    int curvePolynomial(int degree, int seed) {
        int first = power(p, degree);
        int f = first + Math.floorMod(seed * 7919 + seed * seed * 31, first * (p - 1));
        while (hasKnot(f)) {
            f = f + 1 < first * p ? f + 1 : first;
        }
        return f;
    }

    /** The value of a POLYNOMIAL at x, with a table of products. */
    int valueOf(long f, int x, int[][] table) {
        int[] row = row(f);
        int power = 1;
        long sum = 0;
        for (int c : row) {
            sum = sum(sum, table[c][power]);
            power = table[power][x];
        }
        return (int) sum;
    }

    /** ITS VALUE of a CURVE of a KIND, as the document tells it. */
    int curveValue(int kind, long f, int t, int x, int[][] table) {
        int at = kind == 2 ? (int) sum(x, t) : x;
        int plain = valueOf(f, at, table);
        return kind == 0 ? plain : table[nonSquare()][plain];
    }

    /** COUNT, with y tried for each x. */
    int points(int kind, long f, int t, int[][] table) {
        int points = 0;
        for (int x = 0; x < table.length; x++) {
            int value = curveValue(kind, f, t, x, table);
            for (int y = 0; y < table.length; y++) {
                points += table[y][y] == value ? 1 : 0;
            }
        }
        return points + beyond(kind, f, table);
    }

    int beyond(int kind, long f, int[][] table) {
        if (degree(f) % 2 == 1) {
            return 1;
        }
        int lead = kind == 0 ? lead(f) : lead(f) * nonSquare() % p;
        for (int y = 0; y < table.length; y++) {
            if (table[y][y] == lead) {
                return 2;
            }
        }
        return 0;
    }

    boolean isClass(long polynomial, int genus, long u, long v) {
        if (u == 0 || lead(u) != 1 || degree(u) > genus) {
            return false;
        }
        if (v != 0 && degree(v) >= degree(u)) {
            return false;
        }
        return rest(difference(polynomial, product(v, v)), u) == 0;
    }
}
