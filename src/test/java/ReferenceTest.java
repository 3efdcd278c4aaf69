import java.math.BigInteger;

/**
 * Answers of single calls against the document's words, as {@link Reference} puts them. Each group of
 * calls has an object of its own, as nothing is promised of one behind its 512th call.
 */
final class ReferenceTest {
    private static final Check CHECK = new Check("ReferenceTest");

    public static void main(String[] args) {
        readingAndRounding();
        for (int width = 0; width <= 2; width++) {
            edges(width);
            samples(width, width == 0 ? 4000 : 12000);
            longs(width);
        }
        allPairsOfEightBits();
        allPatterns(0);
        allPatterns(1);
        midpoints(0);
        midpoints(1);
        midpoints(2);
        CHECK.end();
    }

    /** The reference itself, where the document names numbers. */
    private static void readingAndRounding() {
        for (int n = 8; n <= 32; n *= 2) {
            Reference.Exact largest = Reference.positiveValue((1L << (n - 1)) - 1, n);
            CHECK.due("largest of " + n, largest.compareMagnitude(Reference.power(4 * n - 8)), 0);
            Reference.Exact least = Reference.positiveValue(1, n);
            CHECK.due("least of " + n, least.compareMagnitude(Reference.power(8 - 4 * n)), 0);
            Reference.Exact one = Reference.positiveValue(1L << (n - 2), n);
            CHECK.due("one of " + n, one.compareMagnitude(Reference.power(0)), 0);
        }
    }

    private static void unary(int width, Reference r, int x) {
        TaperedQuire t = new TaperedQuire(width);
        String at = t.bits() + " bits: ";
        CHECK.due(at + "root(" + x + ")", t.root(x), r.root(x));
        CHECK.due(at + "whole(" + x + ")", t.whole(x), r.whole(x));
        CHECK.due(at + "toLong(" + x + ")", t.toLong(x), r.toLong(x));
        CHECK.due(at + "next(" + x + ")", t.next(x), r.next(x));
        for (int to = 0; to <= 2; to++) {
            CHECK.due(at + "convert(" + x + ", " + to + ")", t.convert(x, to), r.convert(x, to));
        }
    }

    private static void binary(int width, Reference r, int x, int y) {
        TaperedQuire t = new TaperedQuire(width);
        String of = "(" + x + ", " + y + ") of " + t.bits() + " bits";
        CHECK.due("add" + of, t.add(x, y), r.add(x, y));
        CHECK.due("subtract" + of, t.subtract(x, y), r.subtract(x, y));
        CHECK.due("multiply" + of, t.multiply(x, y), r.multiply(x, y));
        CHECK.due("divide" + of, t.divide(x, y), r.divide(x, y));
        CHECK.due("compare" + of, t.compare(x, y), r.compare(x, y));
    }

    private static void ternary(int width, Reference r, int x, int y, int z) {
        TaperedQuire t = new TaperedQuire(width);
        String of = "(" + x + ", " + y + ", " + z + ") of " + t.bits() + " bits";
        CHECK.due("fused" + of, t.fused(x, y, z), r.fused(x, y, z));
    }

    private static void fromLong(int width, Reference r, long v) {
        CHECK.due(r.bits() + " bits: fromLong(" + v + ")", new TaperedQuire(width).fromLong(v), r.fromLong(v));
    }

    private static void edges(int width) {
        Reference r = new Reference(width);
        int[] edges = Operands.edges(r.bits());
        for (int x : edges) {
            unary(width, r, x);
            for (int y : edges) {
                binary(width, r, x, y);
            }
        }
        for (int i = 0; i < edges.length; i++) {
            for (int j = i; j < edges.length; j += 2) {
                for (int k = j % 3; k < edges.length; k += 3) {
                    ternary(width, r, edges[i], edges[j], edges[k]);
                }
            }
        }
    }

    private static void samples(int width, int count) {
        Reference r = new Reference(width);
        Operands some = new Operands(r.bits(), 11 + width);
        for (int i = 0; i < count; i++) {
            int x = some.pattern();
            int y = some.pattern();
            unary(width, r, x);
            binary(width, r, x, y);
            ternary(width, r, x, y, some.pattern());
            // The product nearly cancels: what is left lies far below both.
            ternary(width, r, x, y, -r.multiply(x, y));
        }
    }

    private static void longs(int width) {
        Reference r = new Reference(width);
        Operands some = new Operands(r.bits(), 21 + width);
        for (int i = 0; i < 6000; i++) {
            fromLong(width, r, some.wide());
        }
        for (int e = 0; e < 64; e++) {
            for (long near = -2; near <= 2; near++) {
                long v = (1L << e) + near;
                fromLong(width, r, v);
                fromLong(width, r, -v);
            }
        }
    }

    private static void allPairsOfEightBits() {
        Reference r = new Reference(0);
        for (int x = -128; x < 128; x++) {
            for (int y = -128; y < 128; y++) {
                binary(0, r, x, y);
            }
        }
    }

    private static void allPatterns(int width) {
        Reference r = new Reference(width);
        int bound = 1 << (r.bits() - 1);
        for (int x = -bound; x < bound; x++) {
            unary(width, r, x);
        }
    }

    /**
     * Sums at, just below and just above the number that decides between u and u + 1, which is a
     * pattern of one bit more: it is made in the sum from products of single bits.
     */
    private static void midpoints(int width) {
        Reference r = new Reference(width);
        int n = r.bits();
        Operands some = new Operands(n, 31 + width);
        for (int i = 0; i < 300; i++) {
            int u = i < 40 ? 1 + i : i < 80 ? (int) ((1L << (n - 1)) - 2) - (i - 40) : Math.abs(r.next(some.pattern()));
            if (u <= 0 || u >= (1L << (n - 1)) - 1) {
                continue;
            }
            Reference.Exact v = Reference.positiveValue(2L * u + 1, n + 1);
            BigInteger units = v.num().shiftLeft(8 * n - 16).divide(v.den());
            for (int side = -1; side <= 1; side++) {
                TaperedQuire t = new TaperedQuire(width);
                fill(t, n, units.add(BigInteger.valueOf(side)));
                int want = side < 0 ? u : side > 0 ? u + 1 : u + (u & 1);
                CHECK.due(n + " bits: total, at " + side + " of the middle behind " + u, t.total(0), want);
                t.negate(0);
                CHECK.due(n + " bits: total, at " + side + " of the middle before " + -u, t.total(0), -want);
            }
        }
    }

    /** Makes sum 0 so many units, which is each bit's own product of two powers of two. */
    private static void fill(TaperedQuire t, int n, BigInteger units) {
        for (int bit = 0; bit < units.bitLength(); bit++) {
            if (units.testBit(bit)) {
                int scale = bit - (8 * n - 16);
                int high = scale / 2;
                collectPower(t, n, high, scale - high);
            }
        }
    }

    /** Adds 2^(a + b); where there is no such pattern, twice the half of it, or four times a quarter. */
    private static void collectPower(TaperedQuire t, int n, int a, int b) {
        for (int times = 1; times <= 64; times *= 2) {
            for (int e = a - 6; e <= a + 6; e++) {
                int x = Reference.round(Reference.power(e), n);
                int y = Reference.round(Reference.power(a + b - e), n);
                boolean exact = Reference.positiveValue(x, n).compareMagnitude(Reference.power(e)) == 0
                    && Reference.positiveValue(y, n).compareMagnitude(Reference.power(a + b - e)) == 0;
                if (exact) {
                    for (int i = 0; i < times; i++) {
                        t.collect(0, x, y, false);
                    }
                    return;
                }
            }
            b--;
        }
        throw new IllegalStateException("no product of that size");
    }
}
