/** What the document's terms come to for each p, written out; the rows are those of PRIMES. */
final class Facts {
    static final int[] PRIMES = {3, 5, 7, 11, 13};
    static final int[] FIELDS = {5, 3, 3, 2, 2};
    static final int[] D = {2, 2, 3, 2, 2};
    /** The first f of the degrees 3 .. 6 that has no KNOT, and the last one. */
    static final int[][] FIRST = {{30, 82, 244, 732}, {126, 626, 3130, 15626},
        {344, 2402, 16808, 117650}, {1332, 14642, 161052, 1771562}, {2198, 28562, 371294, 4826810}};
    static final int[][] LAST = {{80, 242, 727, 2186}, {624, 3123, 15624, 78124},
        {2400, 16806, 117648, 823541}, {14640, 161050, 1771560, 19487170},
        {28560, 371292, 4826808, 62748516}};

    private Facts() {
    }
}
