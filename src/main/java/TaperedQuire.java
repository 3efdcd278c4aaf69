/**
 * Numbers of tapered precision in 8, 16 or 32 bits, with arithmetic that rounds every exact
 * result once, and two wide sums in which products are added without any rounding.
 *
 * <p>Every sum and product is formed exactly in a wide row of words and rounded from there, so
 * that there is one path from an exact result to a pattern. All rows are made with the object
 * and used again: no call makes an object.
 */
public final class TaperedQuire {
    private final int size;
    private final Sum[] sums;
    // What a call works with; nothing in these is kept from one call to the next.
    private final Sum exact;
    private final Sum term;
    private final Operand left;
    private final Operand right;

    public TaperedQuire(int width) {
        size = sizeOfWidth(width);
        sums = new Sum[] {new Sum(size), new Sum(size)};
        exact = new Sum(size);
        term = new Sum(size);
        left = new Operand();
        right = new Operand();
    }

    public int bits() {
        return size;
    }

    public int add(int x, int y) {
        return fused(x, one(), y);
    }

    public int subtract(int x, int y) {
        // The lowest bits of -y depend on the lowest bits of y alone, and NOT is its own negative.
        return fused(x, one(), -y);
    }

    public int multiply(int x, int y) {
        return fused(x, y, 0);
    }

    public int divide(int x, int y) {
        left.read(x, size);
        right.read(y, size);
        if (left.not || right.not || right.magnitude == 0) {
            return notOf(size);
        }
        // With its leading bit at 62 the dividend yields at least 34 bits, more than a pattern
        // holds, so that of the remainder only matters whether there is one.
        int shift = Long.numberOfLeadingZeros(left.magnitude) - 1;
        long dividend = left.magnitude << shift;
        long quotient = dividend / right.magnitude;
        boolean more = quotient * right.magnitude != dividend;
        int exponent = left.exponent - shift - right.exponent;
        return rounded(size, left.negative != right.negative, quotient, exponent, more);
    }

    public int root(int x) {
        left.read(x, size);
        if (left.not || left.negative) {
            return notOf(size);
        }
        if (left.magnitude == 0) {
            return 0;
        }
        // The radicand has 61 or 62 bits, whichever leaves an even exponent to be halved.
        int shift = Long.numberOfLeadingZeros(left.magnitude) - 2;
        if (((left.exponent - shift) & 1) != 0) {
            shift--;
        }
        long radicand = left.magnitude << shift;
        long floor = floorRoot(radicand);
        boolean more = floor * floor != radicand;
        return rounded(size, false, floor, (left.exponent - shift) >> 1, more);
    }

    public int fused(int x, int y, int z) {
        setProduct(exact, x, y);
        setProduct(term, z, one());
        exact.include(term);
        return roundedSum(exact);
    }

    public int whole(int x) {
        left.read(x, size);
        if (left.not || left.exponent >= 0) {
            return patternOf(x, size);
        }
        return rounded(size, left.negative, nearestWhole(left), 0, false);
    }

    public int next(int p) {
        return patternOf(p + 1, size);
    }

    public int fromLong(long v) {
        if (v == Long.MIN_VALUE) {
            return notOf(size);
        }
        return rounded(size, v < 0, Math.abs(v), 0, false);
    }

    public long toLong(int x) {
        left.read(x, size);
        // From 2^63 on. That -2^63 itself is a long makes no difference: the answer is the same.
        boolean tooLarge = left.exponent >= Long.numberOfLeadingZeros(left.magnitude);
        if (left.not || tooLarge) {
            return Long.MIN_VALUE;
        }
        long nearest = nearestWhole(left);
        return left.negative ? -nearest : nearest;
    }

    public int convert(int x, int width) {
        int target = sizeOfWidth(width);
        left.read(x, size);
        if (left.not) {
            return notOf(target);
        }
        return rounded(target, left.negative, left.magnitude, left.exponent, false);
    }

    public boolean clear(int q) {
        if (!isSum(q)) {
            return false;
        }
        sums[q].setZero();
        return true;
    }

    public boolean collect(int q, int x, int y, boolean minus) {
        if (!isSum(q)) {
            return false;
        }
        setProduct(term, x, y);
        if (minus) {
            term.flip();
        }
        sums[q].include(term);
        return true;
    }

    public boolean merge(int q) {
        if (!isSum(q)) {
            return false;
        }
        sums[q].include(sums[1 - q]);
        return true;
    }

    public boolean negate(int q) {
        if (!isSum(q)) {
            return false;
        }
        sums[q].flip();
        return true;
    }

    public int total(int q) {
        if (!isSum(q)) {
            return notOf(size);
        }
        return roundedSum(sums[q]);
    }

    public long word(int q, int k) {
        if (!isSum(q) || k < 0 || k >= sums[q].words.length) {
            return 0;
        }
        return sums[q].words[k];
    }

    public int compare(int x, int y) {
        int first = patternOf(x, size);
        int second = patternOf(y, size);
        if (first == second) {
            return 0;
        }
        return first < second ? -1 : 1;
    }

    private static int sizeOfWidth(int width) {
        if (width == 0) {
            return 8;
        }
        return width == 1 ? 16 : 32;
    }

    private static int patternOf(int x, int size) {
        return x << (32 - size) >> (32 - size);
    }

    private static int notOf(int size) {
        return -1 << (size - 1);
    }

    private int one() {
        return 1 << (size - 2);
    }

    private static boolean isSum(int q) {
        return q == 0 || q == 1;
    }

    private void setProduct(Sum sum, int x, int y) {
        left.read(x, size);
        right.read(y, size);
        sum.setProduct(left, right);
    }

    private static long floorRoot(long radicand) {
        long floor = 0;
        for (int bit = 30; bit >= 0; bit--) {
            long trial = floor | (1L << bit);
            if (trial * trial <= radicand) {
                floor = trial;
            }
        }
        return floor;
    }

    /** The whole number nearest to |v|, the even one of two; v is below 2^63. */
    private static long nearestWhole(Operand v) {
        if (v.exponent >= 0) {
            return v.magnitude << v.exponent;
        }
        int drop = -v.exponent;
        // A magnitude is below 2^28, so that what is shifted so far lies below a half.
        if (drop > 60) {
            return 0;
        }
        long floor = v.magnitude >> drop;
        long rest = v.magnitude - (floor << drop);
        long half = 1L << (drop - 1);
        boolean up = rest > half || (rest == half && (floor & 1) == 1);
        return up ? floor + 1 : floor;
    }

    private int roundedSum(Sum sum) {
        if (sum.isNot()) {
            return notOf(size);
        }
        boolean negative = sum.isNegative();
        term.copy(sum);
        if (negative) {
            term.flip();
        }
        int top = term.topBit();
        if (top < 0) {
            return 0;
        }
        boolean more = term.hasBitsBelow(top - 63);
        return signedPattern(size, negative, top - term.placeOfOne, term.leadingBits(top), more);
    }

    /**
     * magnitude * 2^exponent, rounded; more tells that the exact number lies above that by less
     * than one unit of the magnitude, which then has 30 bits at least.
     */
    private static int rounded(int size, boolean negative, long magnitude, int exponent,
            boolean more) {
        if (magnitude == 0) {
            return 0;
        }
        int zeros = Long.numberOfLeadingZeros(magnitude);
        return signedPattern(size, negative, exponent + 63 - zeros, magnitude << zeros, more);
    }

    /**
     * The pattern of a number that is not 0, between 2^scale and 2^(scale + 1), whose leading bits
     * are those of significand (the first, at 63, is set), with more behind them or not.
     */
    private static int signedPattern(int size, boolean negative, int scale, long significand,
            boolean more) {
        int magnitude = positivePattern(size, scale, significand, more);
        return negative ? -magnitude : magnitude;
    }

    private static int positivePattern(int size, int scale, long significand, boolean more) {
        int largestScale = 4 * size - 8;
        if (scale >= largestScale) {
            return (1 << (size - 1)) - 1;
        }
        if (scale < -largestScale) {
            return 1;
        }
        int r = scale >> 2;
        int runLength = r >= 0 ? r + 2 : 1 - r;
        int run = r >= 0 ? (1 << runLength) - 2 : 1;
        // Larger patterns have larger values, and the pattern of size + 1 bits that decides is u
        // with one bit more: so rounding the endless row of bits rounds the value as is due.
        long tail = ((long) (scale & 3) << 62) | ((significand & Long.MAX_VALUE) >>> 1);
        boolean behindTail = more || (significand & 1) != 0;
        int room = size - 1 - runLength;
        // Two shifts, as a shift by 64 would leave all bits where room is 0.
        int u = (run << room) | (int) (tail >>> 1 >>> (63 - room));
        long rest = tail << room;
        boolean reachesHalf = rest < 0;
        boolean aboveHalf = (rest << 1) != 0 || behindTail;
        boolean up = reachesHalf && (aboveHalf || (u & 1) == 1);
        return up ? u + 1 : u;
    }

    /** A pattern taken apart: NOT, or magnitude * 2^exponent with a sign. */
    private static final class Operand {
        boolean not;
        boolean negative;
        /** Odd, and below 2^28; or 0, with the exponent 0. */
        long magnitude;
        int exponent;

        void read(int x, int size) {
            int pattern = patternOf(x, size);
            not = pattern == notOf(size);
            negative = pattern < 0;
            magnitude = 0;
            exponent = 0;
            if (pattern != 0 && !not) {
                // The sign bit is pushed out, so that the run starts at the int's first bit.
                readBody(Math.abs(pattern) << (33 - size));
            }
        }

        private void readBody(int body) {
            boolean ones = body < 0;
            int run = Integer.numberOfLeadingZeros(ones ? ~body : body);
            int r = ones ? run - 1 : -run;
            // Two shifts, as run + 1 may be 32, and a shift by that would leave all bits.
            int rest = body << run << 1;
            int scale = 4 * r + (rest >>> 30);
            long fraction = (rest << 2) & 0xFFFFFFFFL;
            long significand = (1L << 32) | fraction;
            int zeros = Long.numberOfTrailingZeros(significand);
            magnitude = significand >> zeros;
            exponent = scale - 32 + zeros;
        }
    }

    /** A wide two's-complement integer, the lowest word first; its least integer is NOT. */
    private static final class Sum {
        /** The bit that stands for 1. */
        final int placeOfOne;
        final long[] words;

        Sum(int size) {
            placeOfOne = 8 * size - 16;
            words = new long[16 * size / 64];
        }

        void setZero() {
            for (int i = 0; i < words.length; i++) {
                words[i] = 0;
            }
        }

        void setNot() {
            setZero();
            words[words.length - 1] = Long.MIN_VALUE;
        }

        boolean isNot() {
            int last = words.length - 1;
            return words[last] == Long.MIN_VALUE && !hasBitsBelow(64 * last);
        }

        boolean isNegative() {
            return words[words.length - 1] < 0;
        }

        void copy(Sum other) {
            for (int i = 0; i < words.length && i < other.words.length; i++) {
                words[i] = other.words[i];
            }
        }

        void setProduct(Operand x, Operand y) {
            if (x.not || y.not) {
                setNot();
                return;
            }
            setZero();
            setBits(x.magnitude * y.magnitude, x.exponent + y.exponent + placeOfOne);
            if (x.negative != y.negative) {
                flip();
            }
        }

        private void setBits(long value, int position) {
            int index = position >> 6;
            int shift = position & 63;
            if (index >= 0 && index < words.length) {
                words[index] = value << shift;
            }
            if (index >= 0 && index + 1 < words.length) {
                // Two shifts, as a shift by 64 would leave all bits.
                words[index + 1] = value >>> 1 >>> (63 - shift);
            }
        }

        /** Makes it its negative; NOT is its own. */
        void flip() {
            long carry = 1;
            for (int i = 0; i < words.length; i++) {
                words[i] = ~words[i] + carry;
                carry = carry == 1 && words[i] == 0 ? 1 : 0;
            }
        }

        /** Adds the other one, and wraps; NOT when one of them is. */
        void include(Sum other) {
            if (isNot() || other.isNot()) {
                setNot();
                return;
            }
            long carry = 0;
            for (int i = 0; i < words.length && i < other.words.length; i++) {
                long a = words[i];
                long b = other.words[i];
                long both = a + b + carry;
                carry = ((a & b) | ((a | b) & ~both)) >>> 63;
                words[i] = both;
            }
        }

        /** The place of the first bit that is set, or -1. */
        int topBit() {
            for (int i = words.length - 1; i >= 0; i--) {
                if (words[i] != 0) {
                    return 64 * i + 63 - Long.numberOfLeadingZeros(words[i]);
                }
            }
            return -1;
        }

        /** The 64 bits from this place downwards; those below the sum's end are 0. */
        long leadingBits(int top) {
            int index = top >> 6;
            if (index < 0 || index >= words.length) {
                return 0;
            }
            int shift = 63 - (top & 63);
            long below = index > 0 ? words[index - 1] : 0;
            return (words[index] << shift) | (below >>> 1 >>> (63 - shift));
        }

        boolean hasBitsBelow(int place) {
            for (int i = 0; i < words.length && 64 * i < place; i++) {
                int bits = Math.min(64, place - 64 * i);
                if (words[i] << (64 - bits) != 0) {
                    return true;
                }
            }
            return false;
        }
    }
}
