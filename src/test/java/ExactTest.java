import java.util.function.Supplier;

/**
 * Millions of answers of the calls that round, against {@link Doubles}: fused for all triples of 8
 * bits, the calls of two numbers for pairs spread over all those of 16 and 32 bits, and those of one
 * number for patterns spread over all those of 32 bits.
 */
final class ExactTest {
    private static final Check CHECK = new Check("ExactTest");
    private static final int CALLS = 512;

    private final int width;
    private final Doubles due;
    private TaperedQuire t;
    private int calls;

    private ExactTest(int width, int n) {
        this.width = width;
        due = new Doubles(n);
        calls = CALLS;
    }

    public static void main(String[] args) {
        new ExactTest(0, 8).allTriples();
        ExactTest of16 = new ExactTest(1, 16);
        for (int x = -32768; x < 32768; x++) {
            for (int i = 0; i < 16; i++) {
                of16.pair(x, (short) (x * 40503 + i * 4099));
            }
        }
        ExactTest of32 = new ExactTest(2, 32);
        for (int i = 0; i < 1000000; i++) {
            of32.pair(i * 1640531527, i * 362437 ^ i << 13);
            // The second lies so near to the first that most of the difference is cancelled.
            of32.pair(i * 1640531527, i * 1640531527 + (i & 511) - 256);
            of32.single(i * 0x9E3779B1);
        }
        CHECK.end();
    }

    /** An object with room for so many calls before its 512th. */
    private TaperedQuire object(int coming) {
        if (calls + coming > CALLS) {
            t = new TaperedQuire(width);
            calls = 0;
        }
        calls += coming;
        return t;
    }

    private void holds(boolean isDue, Supplier<String> call, long answer) {
        CHECK.holds(isDue, () -> call.get() + " in width " + width + " answered " + answer);
    }

    private void allTriples() {
        for (int x = -128; x < 128; x++) {
            for (int y = -128; y < 128; y++) {
                for (int z = -128; z < 128; z++) {
                    triple(x, y, z);
                }
            }
        }
    }

    private void triple(int x, int y, int z) {
        int f = object(1).fused(x, y, z);
        boolean isNot = x == due.not() || y == due.not() || z == due.not();
        // A product of two numbers of 8 bits is a double itself.
        boolean isDue = isNot ? f == due.not() : due.isSum(f, due.value(x) * due.value(y), due.value(z));
        holds(isDue, () -> "fused(" + x + ", " + y + ", " + z + ")", f);
    }

    private void pair(int x, int y) {
        TaperedQuire o = object(4);
        int s = o.add(x, y);
        int d = o.subtract(x, y);
        int m = o.multiply(x, y);
        int q = o.divide(x, y);
        boolean isNot = x == due.not() || y == due.not();
        double a = due.value(x);
        double b = due.value(y);
        Supplier<String> of = () -> "(" + x + ", " + y + ")";
        holds(isNot ? s == due.not() : due.isSum(s, a, b), () -> "add" + of.get(), s);
        holds(isNot ? d == due.not() : due.isSum(d, a, -b), () -> "subtract" + of.get(), d);
        holds(isNot ? m == due.not() : due.isProduct(m, a, b), () -> "multiply" + of.get(), m);
        holds(isNot || y == 0 ? q == due.not() : due.isQuotient(q, a, b), () -> "divide" + of.get(), q);
    }

    private void single(int x) {
        if (x == due.not()) {
            return;
        }
        TaperedQuire o = object(6);
        double a = due.value(x);
        double whole = Math.rint(a);
        Supplier<String> of = () -> "(" + x + ")";
        int root = o.root(x);
        holds(x < 0 ? root == due.not() : due.isRoot(root, a), () -> "root" + of.get(), root);
        int near = o.whole(x);
        holds(due.isDue(near, whole), () -> "whole" + of.get(), near);
        long asLong = o.toLong(x);
        boolean isLong = Math.abs(whole) < 0x1p63;
        holds(asLong == (isLong ? (long) whole : Long.MIN_VALUE), () -> "toLong" + of.get(), asLong);
        for (int to = 0; to <= 2; to++) {
            int other = o.convert(x, to);
            String call = "convert to width " + to;
            holds(new Doubles(8 << to).isDue(other, a), () -> call + of.get(), other);
        }
    }
}
