/** Promises 1, 31 and 32: a new object, what is told, and the trace. */
public final class ToldTest {
    private static final int BAD = FieldCounts.BAD;

    private ToldTest() {
    }

    public static void main(String[] args) {
        newObject();
        told();
        traced();
        constants();
        Checks.finish();
    }

    private static void newObject() {
        FieldCounts x = new FieldCounts();
        Checks.due("p at first", x.told(0), 3);
        Checks.due("FIELDS at first", x.told(1), 5);
        Checks.due("CURVES at first", x.told(2), 0);
        Checks.due("D at first", x.told(3), 2);
        Checks.due("the trace at first", x.traced(), 0L);
        Checks.due("the knot at first", x.knot(), FieldCounts.NONE);
        Checks.due("no curve", x.count(0, 1), BAD);
        Checks.due("F(5)", x.size(5), 243);
    }

    private static void told() {
        for (int p : Naive.PRIMES) {
            Naive naive = new Naive(p);
            FieldCounts x = new FieldCounts();
            x.prime(p);
            Checks.due("p", x.told(0), p);
            Checks.due("FIELDS of " + p, x.told(1), naive.fields());
            Checks.due("D of " + p, x.told(3), naive.nonSquare());
            for (int i = 0; i < 8; i++) {
                Checks.due("CURVES", x.told(2), i);
                x.curve(0, p * p * p + p, 0);
            }
            Checks.due("CURVES", x.told(2), 8);
            for (int what : new int[] {-1, 4, Integer.MIN_VALUE, Integer.MAX_VALUE}) {
                Checks.due("told " + what, x.told(what), BAD);
            }
        }
    }

    private static void traced() {
        FieldCounts x = new FieldCounts();
        x.curve(0, 250, 0);
        x.curve(1, 250, 0);
        x.curve(2, 250, 1);
        x.value(0, 1, 0);
        Checks.due("PLAIN", x.traced(), 1L);
        x.value(1, 1, 0);
        Checks.due("TWIST", x.traced(), 12L);
        x.value(2, 5, 242);
        Checks.due("MOVED", x.traced(), 123L);
        x.value(3, 1, 0);
        x.value(-1, 1, 0);
        x.value(0, 6, 0);
        x.value(0, 1, 3);
        x.value(2, 1, -1);
        Checks.due("BAD brings nothing", x.traced(), 123L);
        x.count(2, 3);
        x.share(2, 2);
        x.further(1, 12);
        x.surface(0, 2, 2);
        x.best(3, 27, 27);
        x.classes(2);
        x.add(2, 1, 1);
        x.order(2, 1);
        x.about(2, 5);
        Checks.due("only value() is traced", x.traced(), 123L);
        x.prime(7);
        Checks.due("prime() leaves the trace", x.traced(), 123L);
        Checks.due("another object", new FieldCounts().traced(), 0L);
    }

    private static void constants() {
        Checks.due("BAD", FieldCounts.BAD, -1);
        Checks.due("STATE", FieldCounts.STATE, -2);
        Checks.due("FULL", FieldCounts.FULL, -3);
        Checks.due("NONE", FieldCounts.NONE, -9);
        Checks.due("NO", FieldCounts.NO, -1000000000);
    }
}
