/** Promises 2 to 12: fields. */
public final class FieldsTest {
    private static final int BAD = FieldCounts.BAD, STATE = FieldCounts.STATE, NO = FieldCounts.NO;

    private FieldsTest() {
    }

    public static void main(String[] args) {
        for (int p : Naive.PRIMES) {
            Naive naive = new Naive(p);
            for (int n = 1; n <= naive.fields(); n++) {
                int[][] table = naive.table(n);
                told(naive, n);
                pairs(naive, n, table);
                singles(naive, n, table);
                forms(naive, n, table);
                refused(naive, n);
            }
            noSuchField(naive);
        }
        primes();
        Checks.finish();
    }

    private static void told(Naive naive, int n) {
        FieldCounts x = new FieldCounts();
        Checks.due("prime " + naive.p, x.prime(naive.p), naive.fields());
        Checks.due("size " + naive.p + " " + n, x.size(n), naive.power(naive.p, n));
        Checks.due("modulus " + naive.p + " " + n, x.modulus(n), naive.modulus(n));
    }

    private static void pairs(Naive naive, int n, int[][] table) {
        Bench bench = new Bench(naive.p);
        int step = table.length > 130 ? 7 : 1;
        for (int a = 0; a < table.length; a++) {
            for (int b = a % step; b < table.length; b += step) {
                String at = naive.p + ": " + n + ", " + a + ", " + b;
                Checks.due("plus " + at, bench.on().plus(n, a, b), naive.sum(a, b));
                Checks.due("times " + at, bench.on().times(n, a, b), table[a][b]);
            }
        }
    }

    private static void singles(Naive naive, int n, int[][] table) {
        Bench bench = new Bench(naive.p);
        int[] signs = naive.signs(table);
        for (int a = 0; a < table.length; a++) {
            String at = naive.p + ": " + n + ", " + a;
            Checks.due("sign " + at, bench.on().sign(n, a), signs[a]);
            Checks.due("trace " + at, bench.on().trace(n, a), naiveTrace(naive, n, a, table));
            int over = bench.on().over(n, a);
            if (a == 0) {
                Checks.due("over " + at, over, STATE);
                Checks.due("turns " + at, bench.on().turns(n, a), STATE);
            } else {
                Checks.due("over " + at, table[a][over], 1);
                Checks.due("turns " + at, bench.on().turns(n, a), naiveTurns(a, table));
            }
            int power = 1;
            for (int e = 0; e < 9; e++) {
                Checks.due("raise " + at + ", " + e, bench.on().raise(n, a, e), power);
                power = table[power][a];
            }
            int far = naivePower(a, Integer.MAX_VALUE, table);
            Checks.due("raise " + at + " far", bench.on().raise(n, a, Integer.MAX_VALUE), far);
        }
    }

    private static int naivePower(int a, int e, int[][] table) {
        int power = 1;
        int square = a;
        for (int left = e; left > 0; left /= 2) {
            power = left % 2 == 1 ? table[power][square] : power;
            square = table[square][square];
        }
        return power;
    }

    private static int naiveTurns(int a, int[][] table) {
        int e = 1;
        for (int power = a; power != 1; power = table[power][a]) {
            e++;
        }
        return e;
    }

    private static long naiveTrace(Naive naive, int n, int a, int[][] table) {
        long sum = 0;
        int power = a;
        for (int i = 0; i < n; i++) {
            sum = naive.sum(sum, power);
            power = naivePower(power, naive.p, table);
        }
        Checks.holds("a trace is of F(1)", sum < naive.p);
        return sum;
    }

    private static void forms(Naive naive, int n, int[][] table) {
        Bench bench = new Bench(naive.p);
        int size = table.length;
        int[] some = {0, 1, 2, naive.p - 1, size / 2, size - 1};
        for (int a : some) {
            for (int b : some) {
                int[] pairs = naiveForms(naive, a, b, table);
                for (int c : some) {
                    String at = naive.p + ": " + n + ", " + a + ", " + b + ", " + c;
                    Checks.due("forms " + at, bench.on().forms(n, a, b, c), pairs[c]);
                }
            }
        }
    }

    private static int[] naiveForms(Naive naive, int a, int b, int[][] table) {
        int[] pairs = new int[table.length];
        for (int x = 0; x < table.length; x++) {
            for (int y = 0; y < table.length; y++) {
                pairs[(int) naive.sum(table[a][table[x][x]], table[b][table[y][y]])]++;
            }
        }
        return pairs;
    }

    private static void refused(Naive naive, int n) {
        Bench bench = new Bench(naive.p);
        int[] wrong = {-1, naive.power(naive.p, n), Integer.MIN_VALUE, Integer.MAX_VALUE};
        for (int a : wrong) {
            String at = naive.p + ": " + n + ", " + a;
            Checks.due("plus a " + at, bench.on().plus(n, a, 0), BAD);
            Checks.due("plus b " + at, bench.on().plus(n, 0, a), BAD);
            Checks.due("times a " + at, bench.on().times(n, a, 0), BAD);
            Checks.due("times b " + at, bench.on().times(n, 0, a), BAD);
            Checks.due("over " + at, bench.on().over(n, a), BAD);
            Checks.due("raise " + at, bench.on().raise(n, a, 0), BAD);
            Checks.due("sign " + at, bench.on().sign(n, a), NO);
            Checks.due("turns " + at, bench.on().turns(n, a), BAD);
            Checks.due("trace " + at, bench.on().trace(n, a), BAD);
            Checks.due("forms a " + at, bench.on().forms(n, a, 1, 1), BAD);
            Checks.due("forms b " + at, bench.on().forms(n, 1, a, 1), BAD);
            Checks.due("forms c " + at, bench.on().forms(n, 1, 1, a), BAD);
        }
        Checks.due("raise to -1", bench.on().raise(n, 1, -1), BAD);
        Checks.due("raise to the least", bench.on().raise(n, 1, Integer.MIN_VALUE), BAD);
    }

    private static void noSuchField(Naive naive) {
        Bench bench = new Bench(naive.p);
        int[] wrong = {0, -1, naive.fields() + 1, Integer.MIN_VALUE, Integer.MAX_VALUE};
        for (int n : wrong) {
            String at = naive.p + ": " + n;
            Checks.due("size " + at, bench.on().size(n), BAD);
            Checks.due("modulus " + at, bench.on().modulus(n), BAD);
            Checks.due("plus " + at, bench.on().plus(n, 0, 0), BAD);
            Checks.due("times " + at, bench.on().times(n, 0, 0), BAD);
            Checks.due("over " + at, bench.on().over(n, 0), BAD);
            Checks.due("raise " + at, bench.on().raise(n, 0, 0), BAD);
            Checks.due("sign " + at, bench.on().sign(n, 0), NO);
            Checks.due("turns " + at, bench.on().turns(n, 0), BAD);
            Checks.due("trace " + at, bench.on().trace(n, 0), BAD);
            Checks.due("forms " + at, bench.on().forms(n, 0, 0, 0), BAD);
        }
    }

    /** prime: back and forth, refused ones change nothing, the same one takes the CURVES away. */
    private static void primes() {
        FieldCounts x = new FieldCounts();
        for (int p : new int[] {13, 3, 7, 5, 11, 3, 7, 13, 5}) {
            Naive naive = new Naive(p);
            Checks.due("prime " + p, x.prime(p), naive.fields());
            Checks.due("told p", x.told(0), p);
            Checks.due("modulus 2 of " + p, x.modulus(2), naive.modulus(2));
            Checks.due("times of " + p, x.times(2, p + 1, p + 2), naive.table(2)[p + 1][p + 2]);
            Checks.due("a curve", x.curve(0, p * p * p + p, 0), 0);
            for (int wrong : new int[] {0, 1, 2, 4, 9, 17, -3, Integer.MIN_VALUE, Integer.MAX_VALUE}) {
                Checks.due("prime " + wrong, x.prime(wrong), BAD);
            }
            Checks.due("p stays", x.told(0), p);
            Checks.due("the curve stays", x.told(2), 1);
            Checks.due("prime again", x.prime(p), naive.fields());
            Checks.due("the curve is gone", x.told(2), 0);
            Checks.due("nothing about it", x.about(0, 0), BAD);
        }
    }
}
