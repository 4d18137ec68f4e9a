/**
 * The document's sentences on CLASSES that name an edge, one test each: 'Terms' and promises 25 to
 * 30. What is due is written out, so that it hangs on no other way of reckoning.
 */
public final class ClassEdgesTest {
    private static final int BAD = FieldCounts.BAD, NONE = FieldCounts.NONE;
    private static final int LEAST = Integer.MIN_VALUE, GREATEST = Integer.MAX_VALUE;

    private static final int[] PRIMES = Facts.PRIMES;
    /** p, KIND, f and all CLASSES in order, u then v: one alone, all with v 0, some. */
    private static final int[][] LISTS = {
        {3, 0, 35, 1, 0},
        {3, 1, 34, 1, 0},
        {3, 0, 33, 1, 0, 3, 0, 4, 0, 5, 0},
        {3, 0, 34, 1, 0, 3, 1, 3, 2, 4, 1, 4, 2, 5, 1, 5, 2},
        {3, 1, 274, 1, 0, 17, 3, 17, 6},
        {5, 0, 126, 1, 0, 5, 1, 5, 4, 6, 0, 8, 2, 8, 3},
        {5, 0, 3145, 1, 0, 5, 0, 6, 0, 7, 0, 8, 0, 9, 0, 26, 0, 29, 0, 30, 0, 33, 0, 35, 0, 37, 0,
            40, 0, 42, 0, 45, 0, 48, 0}};
    /** p, KIND, f, how many: the most and the fewest CLASSES for each p and each GENUS. */
    private static final int[][] ENDS = {{3, 0, 34, 7}, {3, 1, 34, 1}, {5, 1, 135, 10}, {5, 0, 135, 2},
        {7, 0, 346, 13}, {7, 1, 346, 3}, {11, 0, 1345, 18}, {11, 1, 1345, 6}, {13, 0, 2201, 21},
        {13, 1, 2201, 7}, {3, 0, 250, 29}, {3, 1, 274, 3}, {5, 0, 3146, 71}, {5, 1, 3799, 9},
        {7, 0, 17285, 131}, {7, 1, 17889, 18}, {11, 0, 161055, 305}, {11, 1, 161055, 41},
        {13, 1, 373529, 400}, {13, 0, 373529, 64}};

    private ClassEdgesTest() {
    }

    public static void main(String[] args) {
        for (int[] list : LISTS) {
            lists(list);
            pairs(list);
        }
        for (int[] row : ENDS) {
            mostAndFewest(row);
        }
        leadingOne();
        degreeOfU();
        degreeOfV();
        greatPairs();
        belowZero();
        oneClassAlone();
        rootsOnly();
        for (int prime = 0; prime < PRIMES.length; prime++) {
            evenDegrees(prime);
            noSuchCurve(prime);
        }
        Checks.finish();
    }

    private static FieldCounts with(int p, int kind, int f) {
        FieldCounts x = new FieldCounts();
        x.prime(p);
        Checks.due("curve " + p + ", " + kind + ", " + f, x.curve(kind, f, 0), 0);
        return x;
    }

    /** Promises 26 and 27: "by u, then by v"; the first one is (1, 0); NONE: not so many. */
    private static void lists(int[] list) {
        FieldCounts x = with(list[0], list[1], list[2]);
        String at = list[0] + ", " + list[1] + ", " + list[2] + ": ";
        int many = (list.length - 3) / 2;
        Checks.due(at + "classes", x.classes(0), many);
        Checks.due(at + "whole", x.whole(0), many);
        for (int i = 0; i < many; i++) {
            Checks.due(at + "u of " + i, x.classAt(0, i, 0), list[3 + 2 * i]);
            Checks.due(at + "v of " + i, x.classAt(0, i, 1), list[4 + 2 * i]);
        }
        notSoMany(at, x, many);
    }

    /** The last CLASS is taken, the one behind it is not: NONE for classAt(), BAD for the others. */
    private static void notSoMany(String at, FieldCounts x, int many) {
        int last = many - 1;
        Checks.holds(at + "the last u", x.classAt(0, last, 0) >= 1);
        Checks.holds(at + "the last v", x.classAt(0, last, 1) >= 0);
        Checks.due(at + "the last and the first", x.add(0, last, 0), last);
        Checks.due(at + "the first and the last", x.add(0, 0, last), last);
        Checks.due(at + "the last and its minus", x.add(0, last, x.minus(0, last)), 0);
        Checks.due(at + "minus of minus", x.minus(0, x.minus(0, last)), last);
        Checks.due(at + "order divides", many % x.order(0, last), 0);
        for (int i : new int[] {many, many + 1, 450, 451, GREATEST}) {
            Checks.due(at + "u of " + i, x.classAt(0, i, 0), NONE);
            Checks.due(at + "v of " + i, x.classAt(0, i, 1), NONE);
        }
        for (int i : new int[] {-1, LEAST}) {
            Checks.due(at + "u of " + i, x.classAt(0, i, 0), BAD);
            Checks.due(at + "v of " + i, x.classAt(0, i, 1), BAD);
        }
        for (int what : new int[] {-1, 2, LEAST, GREATEST}) {
            Checks.due(at + "classAt, what " + what, x.classAt(0, 0, what), BAD);
            Checks.due(at + "BAD before NONE", x.classAt(0, many, what), BAD);
        }
        for (int i : new int[] {-1, many, many + 1, 450, LEAST, GREATEST}) {
            Checks.due(at + "add " + i, x.add(0, i, 0), BAD);
            Checks.due(at + "add to it " + i, x.add(0, 0, i), BAD);
            Checks.due(at + "add twice " + i, x.add(0, i, i), BAD);
            Checks.due(at + "minus " + i, x.minus(0, i), BAD);
            Checks.due(at + "order " + i, x.order(0, i), BAD);
        }
        theFirst(at, x);
    }

    /** "The first one is (1, 0)": it adds nothing, is its own minus, and its order is 1. */
    private static void theFirst(String at, FieldCounts x) {
        Checks.due(at + "u of the first", x.classAt(0, 0, 0), 1);
        Checks.due(at + "v of the first", x.classAt(0, 0, 1), 0);
        Checks.due(at + "the first, twice", x.add(0, 0, 0), 0);
        Checks.due(at + "minus of the first", x.minus(0, 0), 0);
        Checks.due(at + "order of the first", x.order(0, 0), 1);
        Checks.due(at + "the first is one", x.isClass(0, 1, 0), 1);
    }

    /** Promise 25: each pair of small numbers is a CLASS just if it is in the list. */
    private static void pairs(int[] list) {
        Bench bench = new Bench(list[0], new int[] {list[1], list[2], 0});
        int end = 3 * list[0] * list[0];
        for (int u = 0; u < end; u++) {
            for (int v = 0; v < end; v++) {
                int due = 0;
                for (int i = 3; i < list.length; i += 2) {
                    due = list[i] == u && list[i + 1] == v ? 1 : due;
                }
                Checks.due(list[2] + ": isClass " + u + ", " + v, bench.on().isClass(0, u, v), due);
            }
        }
    }

    private static void mostAndFewest(int[] row) {
        String at = row[0] + ", " + row[1] + ", " + row[2] + ": ";
        FieldCounts x = with(row[0], row[1], row[2]);
        Checks.due(at + "classes", x.classes(0), row[3]);
        Checks.due(at + "whole", x.whole(0), row[3]);
        notSoMany(at, x, row[3]);
    }

    /** "u has 1 as its first coefficient": twice such a u divides too, but is none; nor is 0. */
    private static void leadingOne() {
        FieldCounts x = with(5, 0, 126);
        Checks.due("x, 1", x.isClass(0, 5, 1), 1);
        Checks.due("2 x, 1", x.isClass(0, 10, 1), 0);
        Checks.due("4 x, 1", x.isClass(0, 20, 1), 0);
        Checks.due("2, 0", x.isClass(0, 2, 0), 0);
        Checks.due("4, 0", x.isClass(0, 4, 0), 0);
        Checks.due("0, 0", x.isClass(0, 0, 0), 0);
        Checks.due("0, 1", x.isClass(0, 0, 1), 0);
    }

    /** "degree GENUS at most": a u of one degree more that divides is none. */
    private static void degreeOfU() {
        FieldCounts one = with(3, 0, 33);
        Checks.due("x", one.isClass(0, 3, 0), 1);
        Checks.due("x (x + 1), GENUS 1", one.isClass(0, 12, 0), 0);
        Checks.due("all of x x x - x", one.isClass(0, 33, 0), 0);
        FieldCounts two = with(5, 0, 3145);
        Checks.due("x (x + 1), GENUS 2", two.isClass(0, 30, 0), 1);
        Checks.due("x (x + 1) (x + 2), GENUS 2", two.isClass(0, 210, 0), 0);
        Checks.due("all of it", two.isClass(0, 3145, 0), 0);
    }

    /** "v a lesser degree than u (0 is one of them)": u may be 1 with v 0 alone. */
    private static void degreeOfV() {
        FieldCounts x = with(5, 0, 126);
        Checks.due("1, 0", x.isClass(0, 1, 0), 1);
        for (int v : new int[] {1, 2, 4, 5, 6, 25}) {
            Checks.due("1, " + v, x.isClass(0, 1, v), 0);
        }
        Checks.due("x + 1, 0", x.isClass(0, 6, 0), 1);
        Checks.due("x + 1, x + 1", x.isClass(0, 6, 6), 0);
        Checks.due("x, 4", x.isClass(0, 5, 4), 1);
        Checks.due("x, x + 4", x.isClass(0, 5, 9), 0);
        Checks.due("x, x x + 4", x.isClass(0, 5, 29), 0);
        FieldCounts two = with(3, 1, 274);
        Checks.due("GENUS 2, the last v", two.isClass(0, 17, 6), 1);
        Checks.due("GENUS 2, u more", two.isClass(0, 17, 14), 0);
    }

    /** Numbers of any size are no CLASS, but not BAD. */
    private static void greatPairs() {
        for (int prime = 0; prime < PRIMES.length; prime++) {
            for (int degree = 3; degree <= 5; degree += 2) {
                FieldCounts x = with(PRIMES[prime], 0, Facts.FIRST[prime][degree - 3]);
                for (int great : new int[] {GREATEST, GREATEST - 1, 1 << 30, 1000000000}) {
                    Checks.due("great u", x.isClass(0, great, 0), 0);
                    Checks.due("great v", x.isClass(0, 1, great), 0);
                    Checks.due("great v of a point", x.isClass(0, PRIMES[prime], great), 0);
                    Checks.due("great u and v", x.isClass(0, great, great), 0);
                }
            }
        }
    }

    /** "BAD: the CURVE, a number below 0": of u, of v, of both. */
    private static void belowZero() {
        FieldCounts x = with(5, 0, 126);
        for (int wrong : new int[] {-1, -5, LEAST}) {
            Checks.due("u " + wrong, x.isClass(0, wrong, 0), BAD);
            Checks.due("v " + wrong, x.isClass(0, 1, wrong), BAD);
            Checks.due("v behind a u that is none", x.isClass(0, 0, wrong), BAD);
            Checks.due("v behind a great u", x.isClass(0, GREATEST, wrong), BAD);
            Checks.due("both", x.isClass(0, wrong, wrong), BAD);
        }
    }

    /** A CURVE whose COUNT is BEYOND alone has but the first CLASS. */
    private static void oneClassAlone() {
        FieldCounts x = with(3, 0, 35);
        Checks.due("its points", x.count(0, 1), 1);
        Checks.due("one", x.classes(0), 1);
        Checks.due("no second u", x.classAt(0, 1, 0), NONE);
        Checks.due("add 1", x.add(0, 1, 0), BAD);
        Checks.due("minus 1", x.minus(0, 1), BAD);
        Checks.due("order 1", x.order(0, 1), BAD);
    }

    /** Where all v are 0, each CLASS is its own minus, and two CLASSES share a root or do not. */
    private static void rootsOnly() {
        FieldCounts x = with(5, 0, 3145);
        for (int i = 1; i < 16; i++) {
            Checks.due("minus " + i, x.minus(0, i), i);
            Checks.due("twice " + i, x.add(0, i, i), 0);
            Checks.due("order " + i, x.order(0, i), 2);
        }
        Checks.due("x and x + 1", x.add(0, 1, 2), 8);
        Checks.due("x (x + 1) and x", x.add(0, 8, 1), 2);
        Checks.due("x (x + 1) and x (x + 2)", x.add(0, 8, 10), 13);
        FieldCounts other = with(3, 0, 33);
        Checks.due("two roots make the third", other.add(0, 1, 2), 3);
        Checks.due("and the third the first", other.add(0, 3, 2), 1);
        Checks.due("x of order 2", other.order(0, 1), 2);
        FieldCounts seven = with(3, 0, 34);
        for (int i = 1; i < 7; i++) {
            Checks.due("order in seven", seven.order(0, i), 7);
            Checks.due("minus in seven", seven.minus(0, i), i % 2 == 1 ? i + 1 : i - 1);
        }
    }

    /** "(BAD: of a CURVE of an even degree, too)", of each KIND, with numbers good and bad. */
    private static void evenDegrees(int prime) {
        for (int degree = 3; degree <= 6; degree++) {
            for (int kind = 0; kind <= 2; kind++) {
                FieldCounts x = with(PRIMES[prime], kind, Facts.FIRST[prime][degree - 3]);
                boolean even = degree % 2 == 0;
                String at = PRIMES[prime] + ", degree " + degree + ": ";
                Checks.due(at + "isClass", x.isClass(0, 1, 0), even ? BAD : 1);
                Checks.due(at + "isClass of none", x.isClass(0, 0, 0), even ? BAD : 0);
                Checks.due(at + "classes", x.classes(0), even ? BAD : x.whole(0));
                Checks.due(at + "classAt", x.classAt(0, 0, 0), even ? BAD : 1);
                Checks.due(at + "classAt far", x.classAt(0, GREATEST, 1), even ? BAD : NONE);
                Checks.due(at + "add", x.add(0, 0, 0), even ? BAD : 0);
                Checks.due(at + "minus", x.minus(0, 0), even ? BAD : 0);
                Checks.due(at + "order", x.order(0, 0), even ? BAD : 1);
                Checks.holds(at + "whole is told of all", x.whole(0) > 0);
            }
        }
    }

    private static void noSuchCurve(int prime) {
        FieldCounts x = with(PRIMES[prime], 0, Facts.FIRST[prime][0]);
        for (int curve : new int[] {-1, 1, 7, 8, LEAST, GREATEST}) {
            String at = PRIMES[prime] + ", CURVE " + curve + ": ";
            Checks.due(at + "isClass", x.isClass(curve, 1, 0), BAD);
            Checks.due(at + "classes", x.classes(curve), BAD);
            Checks.due(at + "classAt", x.classAt(curve, 0, 0), BAD);
            Checks.due(at + "classAt far", x.classAt(curve, GREATEST, 0), BAD);
            Checks.due(at + "add", x.add(curve, 0, 0), BAD);
            Checks.due(at + "minus", x.minus(curve, 0), BAD);
            Checks.due(at + "order", x.order(curve, 0), BAD);
        }
        x.prime(PRIMES[prime]);
        Checks.due("classes behind prime()", x.classes(0), BAD);
    }
}
