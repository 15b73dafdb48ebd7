/** Numbers that look drawn, the same at each run. */
final class Draws {
    private long state;

    Draws(long start) {
        state = start * 0x9E3779B97F4A7C15L + 1;
    }

    private long next() {
        state = state * 6364136223846793005L + 1442695040888963407L;
        long x = state;
        x ^= x >>> 33;
        x *= 0xff51afd7ed558ccdL;
        x ^= x >>> 33;
        return x;
    }

    int below(int n) {
        return (int) Long.remainderUnsigned(next(), n);
    }

    int from(int a, int b) {
        return a + below(b - a + 1);
    }

    boolean once(int in) {
        return below(in) == 0;
    }

    int any() {
        int[] far = {Integer.MIN_VALUE, Integer.MAX_VALUE, -1, 0, 1, 46341, -1000000001, 1 << 30, Integer.MIN_VALUE + 1};
        return once(2) ? far[below(far.length)] : (int) next();
    }

    /** Mostly from a to b, else beside or far away. */
    int about(int a, int b) {
        int k = below(40);
        if (k == 0) return any();
        if (k == 1) return a - 1;
        if (k == 2) return b + 1;
        if (k == 3) return a;
        if (k == 4) return b;
        return b < a ? a : from(a, b);
    }
}
