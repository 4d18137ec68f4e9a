import java.lang.management.ManagementFactory;

/**
 * Long runs of calls with good and bad numbers: none may throw, each answer is that of Second, which
 * works it out anew from what was told, and a run makes no objects beyond those of the start.
 */
public final class StormTest {
    private static final int RUNS = 200;
    /** Behind the first few: an object is used for 512 calls at most. */
    private static final int CALLS = 500;
    private static final int[] EDGES = {0, 1, 2, 3, 4, 5, 6, 7, 8, 9, 12, 13, 14, 26, 27, 33, 34, 100,
        101, 126, 168, 169, 242, 243, 250, 342, 343, 449, 450, 2186, 2187, 16808, 62748516, 62748517,
        1000000, 1000001, -1, -2, -9, -1000000000, Integer.MIN_VALUE, Integer.MAX_VALUE};
    private static final int[] CURVES = {0, 1, 2, 3};

    private final int run;
    private final FieldCounts x = new FieldCounts();
    private final Second second = new Second();
    private long seed;
    private int p = 3;

    private StormTest(int run) {
        this.run = run;
        seed = run;
    }

    public static void main(String[] args) {
        for (int run = 0; run < RUNS; run++) {
            new StormTest(run).run();
        }
        room();
        Checks.finish();
    }

    private int next(int end) {
        seed = seed * 6364136223846793005L + 1442695040888963407L;
        return (int) Math.floorMod(seed >>> 33, (long) end);
    }

    /** Mostly small numbers, so that many calls are good ones. */
    private int number() {
        int kind = next(20);
        if (kind < 12) {
            return next(4);
        }
        if (kind < 18) {
            return kind < 16 ? next(40) : next(p * p);
        }
        return EDGES[next(EDGES.length)];
    }

    private void run() {
        ask(Call.PRIME, Naive.PRIMES[next(5)]);
        for (int i = 0; i < 5; i++) {
            ask(Call.CURVE, i % 3, polynomial(), next(p));
        }
        for (int i = 0; i < CALLS; i++) {
            any();
        }
    }

    private void ask(Call call, int... numbers) {
        Checks.due("run " + run + ": " + call.said(numbers), call.ask(x, numbers), second.ask(call, numbers));
        p = (int) second.ask(Call.TOLD, 0);
    }

    /** One of a degree 3 .. 6; now and then with a square in it, so that there is a KNOT. */
    private int polynomial() {
        Naive naive = new Naive(p);
        int first = naive.power(p, 3 + next(4));
        if (next(5) == 0) {
            long square = naive.product(p + next(p), p + next(p));
            return (int) naive.product(naive.product(square, square), 1 + next(p * p - 1));
        }
        return first + next(first * (p - 1));
    }

    private void any() {
        int which = next(150);
        // prime() is rare, as it would leave no time to use what curve() makes.
        if (which == 0) {
            ask(Call.PRIME, next(2) == 0 ? number() : Naive.PRIMES[next(5)]);
        } else if (which < 7) {
            ask(Call.CURVE, number(), next(4) == 0 ? number() : polynomial(), number());
        } else if (which < 10) {
            ask(Call.BEST, 3 + next(4), next(30000), 1 + next(100));
        } else {
            Call call = Call.values()[1 + next(Call.values().length - 1)];
            int[] numbers = new int[call.places];
            for (int i = 0; i < numbers.length; i++) {
                numbers[i] = number();
            }
            ask(call, numbers);
        }
    }

    /** The dearest calls, 500 of them, beside what the constructor makes. */
    private static void room() {
        com.sun.management.ThreadMXBean threads =
                (com.sun.management.ThreadMXBean) ManagementFactory.getThreadMXBean();
        long sum = dearest(new FieldCounts());
        long start = threads.getCurrentThreadAllocatedBytes();
        FieldCounts x = new FieldCounts();
        long made = threads.getCurrentThreadAllocatedBytes();
        Checks.due("the same answers", dearest(x), sum);
        long end = threads.getCurrentThreadAllocatedBytes();
        Checks.holds("a new object takes " + (made - start), made - start < 100000);
        Checks.holds("500 calls take " + (end - made), end - made < 20000);
    }

    private static long dearest(FieldCounts x) {
        long sum = 0;
        for (int round = 0; round < 20; round++) {
            int p = round % 2 == 0 ? 13 : 7;
            int quintic = p * p * p * p * p;
            sum += x.prime(p);
            for (int curve : CURVES) {
                sum += x.curve(curve % 3, quintic + p * curve + 2, 1);
            }
            for (int curve : CURVES) {
                sum += x.classes(curve) + x.order(curve, 9) + x.further(curve, 12) + x.add(curve, 5, 7);
            }
            sum += x.forms(2, 3, 4, 5) + x.surface(0, 1, 2) + x.best(5, 371293, 100) + x.count(0, 3);
        }
        return sum;
    }
}
