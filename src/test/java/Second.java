import java.util.ArrayList;
import java.util.HashMap;
import java.util.List;
import java.util.Map;

/**
 * The whole face once more, in the document's own words and as slowly as they are said: what long runs
 * of calls are compared with. It holds what it was told, and works out every answer from that alone.
 */
final class Second {
    private static final int BAD = FieldCounts.BAD, STATE = FieldCounts.STATE;
    private static final int FULL = FieldCounts.FULL, NONE = FieldCounts.NONE, NO = FieldCounts.NO;
    /** Tables of products by p and n, as they take long to make. */
    private static final Map<Integer, int[][]> TABLES = new HashMap<>();
    private static final Map<Integer, int[]> SIGNS = new HashMap<>();

    /** A CURVE, as it was told. */
    private record Told(int kind, int f, int t) {
    }

    /** A CLASS. */
    private record Pair(long u, long v) {
    }

    private Naive naive = new Naive(3);
    private final List<Told> curves = new ArrayList<>();
    /** The CLASSES of CURVES that have been asked for; gone with them. */
    private final Map<Told, List<Pair>> lists = new HashMap<>();
    private int knot = NONE;
    private long trace = 0;

    long ask(Call call, int... a) {
        if (call.ordinal() < Call.CURVE.ordinal()) {
            return call == Call.PRIME ? prime(a[0]) : askField(call, a);
        }
        return switch (call) {
            case CURVE -> curve(a[0], a[1], a[2]);
            case KNOT -> knot;
            case BOUND -> bound(a[0]);
            case BEST -> best(a[0], a[1], a[2]);
            case TOLD -> told(a[0]);
            case TRACED -> trace;
            default -> askCurve(call, a);
        };
    }

    // ---- fields

    private int prime(int p) {
        if (p != 3 && p != 5 && p != 7 && p != 11 && p != 13) {
            return BAD;
        }
        naive = new Naive(p);
        curves.clear();
        lists.clear();
        return naive.fields();
    }

    private boolean isField(int n) {
        return n >= 1 && n <= naive.fields();
    }

    private boolean isNumber(int n, int a) {
        return isField(n) && a >= 0 && a < naive.power(naive.p, n);
    }

    private int[][] table(int n) {
        return TABLES.computeIfAbsent(100 * naive.p + n, key -> naive.table(n));
    }

    private int[] signs(int n) {
        return SIGNS.computeIfAbsent(100 * naive.p + n, key -> naive.signs(table(n)));
    }

    private long askField(Call call, int[] a) {
        int n = a[0];
        boolean good = isField(n);
        for (int i = 1; i < a.length; i++) {
            good &= call == Call.RAISE && i == 2 ? a[i] >= 0 : isNumber(n, a[i]);
        }
        if (!good) {
            return call.refusal();
        }
        return switch (call) {
            case SIZE -> naive.power(naive.p, n);
            case MODULUS -> naive.modulus(n);
            case PLUS -> naive.sum(a[1], a[2]);
            case TIMES -> table(n)[a[1]][a[2]];
            case OVER -> over(n, a[1]);
            case RAISE -> raised(n, a[1], a[2]);
            case SIGN -> signs(n)[a[1]];
            case TURNS -> turns(n, a[1]);
            case TRACE -> trace(n, a[1]);
            case FORMS -> forms(n, a[1], a[2], a[3]);
            default -> throw new IllegalStateException(call.name());
        };
    }

    private int over(int n, int a) {
        for (int b = 0; b < table(n).length; b++) {
            if (table(n)[a][b] == 1) {
                return b;
            }
        }
        return STATE;
    }

    /** e times a, or fewer times, as the powers come round again behind p^n - 1 of them. */
    private int raised(int n, int a, int e) {
        int round = table(n).length - 1;
        int power = 1;
        for (int i = e > round ? e % round + round : e; i > 0; i--) {
            power = table(n)[power][a];
        }
        return power;
    }

    private int turns(int n, int a) {
        int power = a;
        for (int e = 1; e < table(n).length; e++) {
            if (power == 1) {
                return e;
            }
            power = table(n)[power][a];
        }
        return STATE;
    }

    private long trace(int n, int a) {
        long sum = 0;
        int power = a;
        for (int i = 0; i < n; i++) {
            sum = naive.sum(sum, power);
            power = raised(n, power, naive.p);
        }
        return sum;
    }

    private int forms(int n, int a, int b, int c) {
        int[][] table = table(n);
        int pairs = 0;
        for (int x = 0; x < table.length; x++) {
            // What b y y is to be.
            long rest = naive.difference(c, table[a][table[x][x]]);
            for (int y = 0; y < table.length; y++) {
                pairs += table[b][table[y][y]] == rest ? 1 : 0;
            }
        }
        return pairs;
    }

    // ---- curves

    private int curve(int kind, int f, int t) {
        boolean good = kind >= 0 && kind <= 2 && f > 0 && naive.degree(f) >= 3 && naive.degree(f) <= 6;
        if (!good || kind == 2 && (t < 0 || t >= naive.p)) {
            return BAD;
        }
        long common = knotOf(f);
        knot = naive.degree(common) > 0 ? (int) common : NONE;
        if (knot != NONE) {
            return STATE;
        }
        if (curves.size() == 8) {
            return FULL;
        }
        curves.add(new Told(kind, f, kind == 2 ? t : 0));
        return curves.size() - 1;
    }

    private long knotOf(long f) {
        return naive.common(f, naive.derivative(f))[0];
    }

    private int bound(int g) {
        if (g != 1 && g != 2) {
            return BAD;
        }
        int bound = 0;
        while ((bound + 1) * (bound + 1) <= 4 * g * g * naive.p) {
            bound++;
        }
        return bound;
    }

    private int best(int degree, int from, int many) {
        if (degree < 3 || degree > 6 || from < 0 || from > 1000000 || many < 1 || many > 100) {
            return BAD;
        }
        int best = NONE;
        int most = -1;
        for (int f = from; f < from + many; f++) {
            if (naive.degree(f) == degree && naive.degree(knotOf(f)) == 0) {
                int points = naive.points(0, f, 0, table(1));
                best = points > most ? f : best;
                most = Math.max(points, most);
            }
        }
        return best;
    }

    private int told(int what) {
        int[] told = {naive.p, naive.fields(), curves.size(), naive.nonSquare()};
        return what >= 0 && what < told.length ? told[what] : BAD;
    }

    private long askCurve(Call call, int[] a) {
        if (a[0] < 0 || a[0] >= curves.size()) {
            return call.refusal();
        }
        Told curve = curves.get(a[0]);
        return switch (call) {
            case ABOUT -> about(curve, a[1]);
            case VALUE -> value(curve, a[1], a[2]);
            case COUNT -> isField(a[1]) ? count(curve, a[1]) : BAD;
            case BEYOND -> isField(a[1]) ? naive.beyond(curve.kind, curve.f, table(a[1])) : BAD;
            case SHARE -> a[1] >= 0 && a[1] <= 2 * genus(curve) ? share(curve)[a[1]] : NO;
            case FURTHER -> a[1] >= 1 && a[1] <= 12 ? further(curve, a[1]) : -1;
            case WHOLE -> whole(curve);
            case SURFACE -> surface(curve, a[1], a[2]);
            default -> naive.degree(curve.f) % 2 == 1 ? askClasses(call, curve, a) : BAD;
        };
    }

    private int genus(Told curve) {
        return naive.degree(curve.f) <= 4 ? 1 : 2;
    }

    private long about(Told curve, int what) {
        long[] told = {curve.kind, curve.f, curve.t, naive.degree(curve.f), genus(curve), polynomial(curve)};
        return what >= 0 && what < told.length ? told[what] : BAD;
    }

    /** f with x + t put in for x, a power at a time, and D times that. */
    private long polynomial(Told curve) {
        long sum = 0;
        long power = 1;
        for (int c : naive.row(curve.f)) {
            sum = naive.sum(sum, naive.product(c, power));
            power = naive.product(power, naive.p + curve.t);
        }
        return curve.kind == 0 ? sum : naive.product(naive.nonSquare(), sum);
    }

    private int value(Told curve, int n, int x) {
        if (!isNumber(n, x)) {
            return BAD;
        }
        trace += curve.kind == 0 ? 1 : curve.kind == 1 ? 10 + 1 : 100 + 10 + 1;
        return naive.curveValue(curve.kind, curve.f, curve.t, x, table(n));
    }

    private int[] values(Told curve, int n) {
        int[] values = new int[table(n).length];
        for (int x = 0; x < values.length; x++) {
            values[x] = naive.curveValue(curve.kind, curve.f, curve.t, x, table(n));
        }
        return values;
    }

    private int count(Told curve, int n) {
        int points = naive.beyond(curve.kind, curve.f, table(n));
        for (int value : values(curve, n)) {
            points += 1 + signs(n)[value];
        }
        return points;
    }

    private int[] share(Told curve) {
        int p = naive.p;
        int one = count(curve, 1) - (p + 1);
        if (genus(curve) == 1) {
            return new int[] {1, one, p};
        }
        int two = (count(curve, 2) - (p * p + 1) + one * one) / 2;
        return new int[] {1, one, two, p * one, p * p};
    }

    private long further(Told curve, int n) {
        int[] s = share(curve);
        long[] r = new long[n + 1];
        long size = 1;
        for (int m = 1; m <= n; m++) {
            size *= naive.p;
            r[m] = m < s.length ? -(long) m * s[m] : 0;
            for (int i = 1; i < m && i < s.length; i++) {
                r[m] -= s[i] * r[m - i];
            }
        }
        return size + 1 - r[n];
    }

    private int whole(Told curve) {
        int sum = 0;
        for (int s : share(curve)) {
            sum += s;
        }
        return sum;
    }

    private int surface(Told curve, int other, int n) {
        if (other < 0 || other >= curves.size() || !isField(n)) {
            return BAD;
        }
        int[][] table = table(n);
        int[] others = values(curves.get(other), n);
        int triples = 0;
        for (int value : values(curve, n)) {
            for (int by : others) {
                triples += 1 + signs(n)[table[value][by]];
            }
        }
        return triples;
    }

    // ---- classes

    private long askClasses(Call call, Told curve, int[] a) {
        if (call == Call.IS_CLASS) {
            return a[1] < 0 || a[2] < 0 ? BAD
                    : naive.isClass(polynomial(curve), genus(curve), a[1], a[2]) ? 1 : 0;
        }
        List<Pair> list = lists.computeIfAbsent(curve, this::list);
        if (call == Call.CLASSES) {
            return list.size();
        }
        boolean there = a[1] >= 0 && a[1] < list.size();
        if (call == Call.CLASS_AT) {
            return a[1] < 0 || a[2] < 0 || a[2] > 1 ? BAD
                    : !there ? NONE : a[2] == 0 ? list.get(a[1]).u : list.get(a[1]).v;
        }
        if (!there || call == Call.ADD && (a[2] < 0 || a[2] >= list.size())) {
            return BAD;
        }
        Pair pair = list.get(a[1]);
        return switch (call) {
            case ADD -> list.indexOf(sum(curve, pair, list.get(a[2])));
            case MINUS -> minus(curve, list, pair);
            case ORDER -> order(curve, pair);
            default -> throw new IllegalStateException(call.name());
        };
    }

    private List<Pair> list(Told curve) {
        List<Pair> list = new ArrayList<>();
        long polynomial = polynomial(curve);
        int end = naive.power(naive.p, genus(curve));
        for (int u = 1; u < 2 * end; u++) {
            for (int v = 0; v < end && naive.lead(u) == 1; v++) {
                if (naive.isClass(polynomial, genus(curve), u, v)) {
                    list.add(new Pair(u, v));
                }
            }
        }
        return list;
    }

    private int minus(Told curve, List<Pair> list, Pair pair) {
        int i = 0;
        while (!sum(curve, pair, list.get(i)).equals(list.get(0))) {
            i++;
        }
        return i;
    }

    private int order(Told curve, Pair pair) {
        int order = 1;
        for (Pair sum = pair; sum.u != 1; sum = sum(curve, sum, pair)) {
            order++;
        }
        return order;
    }

    private Pair sum(Told curve, Pair one, Pair two) {
        long polynomial = polynomial(curve);
        long[] both = naive.common(one.u, two.u);
        long[] all = naive.common(both[0], naive.sum(one.v, two.v));
        long d = all[0];
        long left = naive.product(naive.product(all[1], both[1]), naive.product(one.u, two.v));
        long right = naive.product(naive.product(all[1], both[2]), naive.product(two.u, one.v));
        long squared = naive.product(all[2], naive.sum(naive.product(one.v, two.v), polynomial));
        long u = naive.quotient(naive.product(one.u, two.u), naive.product(d, d));
        long v = naive.rest(naive.quotient(naive.sum(naive.sum(left, right), squared), d), u);
        while (naive.degree(u) > genus(curve)) {
            u = naive.quotient(naive.difference(polynomial, naive.product(v, v)), u);
            u = naive.product(u, naive.over(naive.lead(u)));
            v = naive.rest(naive.difference(0, v), u);
        }
        return new Pair(u, v);
    }
}
