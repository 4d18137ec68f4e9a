/** Hands out an object with a p and CURVES, and a new one like it before 512 calls are used up. */
final class Bench {
    private static final int CALLS = 500;
    private final int p;
    private final int[][] curves;
    private FieldCounts object;
    private int used = CALLS;

    /** Each CURVE as kind, f, t; they are told in this order. */
    Bench(int p, int[]... curves) {
        this.p = p;
        this.curves = curves;
    }

    FieldCounts on() {
        if (used >= CALLS) {
            object = new FieldCounts();
            object.prime(p);
            used = 1;
            for (int i = 0; i < curves.length; i++) {
                int told = object.curve(curves[i][0], curves[i][1], curves[i][2]);
                Checks.due("curve of " + curves[i][1] + " for " + p, told, i);
                used++;
            }
        }
        used++;
        return object;
    }
}
