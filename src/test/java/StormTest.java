import java.lang.management.ManagementFactory;

/**
 * Long runs of calls with good and bad numbers: none may throw, the same calls give the same
 * answers, and a run makes no objects beyond those of the start.
 */
public final class StormTest {
    private static final int RUNS = 200;
    private static final int CALLS = 500;
    private static final int[] EDGES = {0, 1, 2, 3, 4, 5, 6, 7, 8, 9, 12, 13, 14, 26, 27, 33, 34, 100,
        101, 126, 168, 169, 242, 243, 250, 342, 343, 449, 450, 2186, 2187, 16808, 62748516, 62748517,
        1000000, 1000001, -1, -2, -9, -1000000000, Integer.MIN_VALUE, Integer.MAX_VALUE};
    private static final int[] CURVES = {0, 1, 2, 3};

    private long seed;

    private StormTest(long seed) {
        this.seed = seed;
    }

    public static void main(String[] args) {
        for (int run = 0; run < RUNS; run++) {
            long[] one = new StormTest(run).run();
            long[] two = new StormTest(run).run();
            for (int i = 0; i < one.length; i++) {
                Checks.due("run " + run + ", call " + i + " again", two[i], one[i]);
            }
        }
        room();
        Checks.finish();
    }

    private int next(int end) {
        seed = seed * 6364136223846793005L + 1442695040888963407L;
        return (int) Math.floorMod(seed >>> 33, (long) end);
    }

    /** Mostly small numbers, so that many calls are good ones. */
    private int number() {
        int kind = next(10);
        if (kind < 6) {
            return next(4);
        }
        return kind < 8 ? next(40) : EDGES[next(EDGES.length)];
    }

    private long[] run() {
        FieldCounts x = new FieldCounts();
        long[] answers = new long[CALLS];
        x.prime(Naive.PRIMES[next(5)]);
        for (int i = 0; i < 6; i++) {
            int p = x.told(0);
            int span = p * p * p * (p - 1) * (i % 2 == 0 ? 1 : p * p);
            x.curve(i % 3, p * p * p * (i % 2 == 0 ? 1 : p * p) + next(span), next(p));
        }
        for (int i = 0; i < CALLS - 20; i++) {
            answers[i] = call(x, next(400));
        }
        return answers;
    }

    private long call(FieldCounts x, int which) {
        // prime() and curve() are rare, as they would leave no time to use what they make.
        if (which == 0) {
            return x.prime(number());
        }
        if (which < 9) {
            return x.curve(number(), next(2) == 0 ? 125 + next(50000) : number(), number());
        }
        return which % 2 == 0 ? fields(x, which % 11) : curves(x, which % 19);
    }

    private long fields(FieldCounts x, int which) {
        switch (which) {
            case 0: return x.size(number());
            case 1: return x.modulus(number());
            case 2: return x.plus(number(), number(), number());
            case 3: return x.times(number(), number(), number());
            case 4: return x.over(number(), number());
            case 5: return x.raise(number(), number(), number());
            case 6: return x.sign(number(), number());
            case 7: return x.turns(number(), number());
            case 8: return x.trace(number(), number());
            case 9: return x.forms(number(), number(), number(), number());
            default: return x.told(number());
        }
    }

    private long curves(FieldCounts x, int which) {
        switch (which) {
            case 0: return x.about(number(), number());
            case 1: return x.value(number(), number(), number());
            case 2: return x.count(number(), number());
            case 3: return x.beyond(number(), number());
            case 4: return x.share(number(), number());
            case 5: return x.further(number(), number());
            case 6: return x.whole(number());
            case 7: return x.bound(number());
            case 8: return x.surface(number(), number(), number());
            case 9: return x.best(number(), number(), number());
            case 10: return x.isClass(number(), number(), number());
            case 11: return x.classes(number());
            case 12: return x.classAt(number(), number(), number());
            case 13: return x.add(number(), number(), number());
            case 14: return x.minus(number(), number());
            case 15: return x.order(number(), number());
            case 16: return x.traced();
            case 17: return x.best(3 + next(4), next(30000), 1 + next(100));
            default: return x.knot();
        }
    }

    /** The dearest calls, 500 of them, beside what the constructor makes. */
    private static void room() {
        com.sun.management.ThreadMXBean threads =
                (com.sun.management.ThreadMXBean) ManagementFactory.getThreadMXBean();
        long sum = dearest(new FieldCounts());
        long start = threads.getCurrentThreadAllocatedBytes();
        FieldCounts x = new FieldCounts();
        long made = threads.getCurrentThreadAllocatedBytes();
        Checks.due("the same answers", dearest(x), sum);
        long end = threads.getCurrentThreadAllocatedBytes();
        Checks.holds("a new object takes " + (made - start), made - start < 100000);
        Checks.holds("500 calls take " + (end - made), end - made < 20000);
    }

    private static long dearest(FieldCounts x) {
        long sum = 0;
        for (int round = 0; round < 20; round++) {
            int p = round % 2 == 0 ? 13 : 7;
            int quintic = p * p * p * p * p;
            sum += x.prime(p);
            for (int curve : CURVES) {
                sum += x.curve(curve % 3, quintic + p * curve + 2, 1);
            }
            for (int curve : CURVES) {
                sum += x.classes(curve) + x.order(curve, 9) + x.further(curve, 12) + x.add(curve, 5, 7);
            }
            sum += x.forms(2, 3, 4, 5) + x.surface(0, 1, 2) + x.best(5, 371293, 100) + x.count(0, 3);
        }
        return sum;
    }
}
