/** Numbers on and about the boundaries that the document names. */
final class Inputs {
    static final int MOST_CALLS = 512;
    static final int MOST_CHANGES = 48;

    /** Beside the nearest ones, those that a mask or a cast to a shorter type would take for 0, 1 or 2. */
    static final int[] NO_REPLICAS = {
        -1, 3, -2, -3, 4, 5, 8, 32, 64, 256, -254, 65536, 65537,
        Integer.MIN_VALUE, Integer.MIN_VALUE + 1, Integer.MIN_VALUE + 2, Integer.MAX_VALUE};

    private Inputs() {
    }

    /** Each bit alone, each bit missing and the ends of int, each with all the last three bits, then even steps through all ints. */
    static int[] elements() {
        int steps = 20_000;
        int[] elements = new int[2 * 32 * 8 + 2 * 8 + steps];
        int n = 0;
        for (int low = 0; low < 8; low++) {
            for (int bit = 0; bit < 32; bit++) {
                elements[n++] = 1 << bit ^ low;
                elements[n++] = ~(1 << bit) ^ low;
            }
            elements[n++] = Integer.MIN_VALUE + low;
            elements[n++] = Integer.MAX_VALUE - low;
        }
        // An odd step, so that the last three bits change too.
        int step = 214_747;
        for (int i = 0; i < steps; i++) {
            elements[n++] = Integer.MIN_VALUE + i * step;
        }
        return elements;
    }
}
