/** Inputs in a fixed order: the edges, and patterns spread over all run lengths. */
final class Operands {
    private final int n;
    private long state;

    Operands(int n, long seed) {
        this.n = n;
        state = seed;
    }

    long bits() {
        state = state * 6364136223846793005L + 1442695040888963407L;
        long mixed = (state ^ (state >>> 29)) * 0xBF58476D1CE4E5B9L;
        return mixed ^ (mixed >>> 32);
    }

    int below(int bound) {
        return (int) Long.remainderUnsigned(bits(), bound);
    }

    static int[] edges(int n) {
        int one = 1 << (n - 2);
        int largest = (int) ((1L << (n - 1)) - 1);
        int[] positive = {1, 2, 3, 4, 5, one / 2, one - 1, one, one + 1, one + one / 8, one + one / 4,
            one + one / 2, largest - 4, largest - 3, largest - 2, largest - 1, largest};
        int[] all = new int[2 * positive.length + 2];
        for (int i = 0; i < positive.length; i++) {
            all[2 * i] = positive[i];
            all[2 * i + 1] = -positive[i];
        }
        all[all.length - 1] = -largest - 1;
        return all;
    }

    int pattern() {
        switch (below(8)) {
            case 0:
                int[] edges = edges(n);
                return edges[below(edges.length)];
            case 1:
            case 2:
                return (int) bits();
            case 3:
                return (1 << (n - 2)) + below(9) - 4;
            default:
                return ofRun();
        }
    }

    /** Any length of the run is as likely, with few or many bits set behind it. */
    private int ofRun() {
        int run = 1 + below(n - 1);
        long body = 1L << (n - 1 - run) >> 1;
        long rest = body == 0 ? 0 : bits() & (body - 1);
        if (below(3) == 0) {
            rest &= bits() & bits();
        }
        long zeros = body | rest;
        boolean ones = (bits() & 1) == 0;
        long p = ones ? ((1L << (n - 1)) - 1) ^ zeros : zeros;
        return (int) ((bits() & 2) == 0 ? p : -p);
    }

    long wide() {
        long v = bits() >>> below(64);
        switch (below(6)) {
            case 0:
                v = 1L << below(64);
                break;
            case 1:
                v = (1L << below(64)) + below(3) - 1;
                break;
            case 2:
                v &= bits() & bits();
                break;
            default:
                break;
        }
        return (bits() & 1) == 0 ? v : -v;
    }
}
