import java.math.BigInteger;

/**
 * The document's words put as plainly as they stand, over big integers: slow, and sharing nothing
 * with the class under test. It has the face of the class.
 */
final class Reference {
    /** An exact number: sign * |num| / den, or the square root of that. */
    record Exact(BigInteger num, BigInteger den, boolean isRoot) {
        static Exact of(BigInteger num, BigInteger den) {
            return den.signum() < 0 ? new Exact(num.negate(), den.negate(), false) : new Exact(num, den, false);
        }

        Exact plus(Exact o) {
            return of(num.multiply(o.den).add(o.num.multiply(den)), den.multiply(o.den));
        }

        Exact times(Exact o) {
            return of(num.multiply(o.num), den.multiply(o.den));
        }

        Exact over(Exact o) {
            return of(num.multiply(o.den), den.multiply(o.num));
        }

        Exact root() {
            return new Exact(num, den, true);
        }

        Exact negative() {
            return of(num.negate(), den);
        }

        /** How |this| compares with v, which is positive and no root. */
        int compareMagnitude(Exact v) {
            Exact w = isRoot ? v.times(v) : v;
            return num.abs().multiply(w.den).compareTo(w.num.multiply(den));
        }
    }

    private final int n;
    private final BigInteger[] sums = {BigInteger.ZERO, BigInteger.ZERO};

    Reference(int width) {
        n = bitsOf(width);
    }

    static int bitsOf(int width) {
        return width == 0 ? 8 : width == 1 ? 16 : 32;
    }

    static Exact power(int e) {
        BigInteger p = BigInteger.ONE.shiftLeft(Math.abs(e));
        return e >= 0 ? new Exact(p, BigInteger.ONE, false) : new Exact(BigInteger.ONE, p, false);
    }

    static Exact wholeNumber(BigInteger v) {
        return new Exact(v, BigInteger.ONE, false);
    }

    /** The value of a positive pattern of n bits, read bit by bit. */
    static Exact positiveValue(long pattern, int n) {
        StringBuilder text = new StringBuilder();
        for (int i = n - 2; i >= 0; i--) {
            text.append((pattern >> i & 1) == 1 ? '1' : '0');
        }
        int k = 1;
        while (k < text.length() && text.charAt(k) == text.charAt(0)) {
            k++;
        }
        int r = text.charAt(0) == '1' ? k - 1 : -k;
        int at = k + 1;
        int e = 2 * bitAt(text, at) + bitAt(text, at + 1);
        Exact value = power(4 * r + e);
        Exact sum = value;
        for (int i = at + 2, depth = 1; i < text.length(); i++, depth++) {
            if (bitAt(text, i) == 1) {
                sum = sum.plus(value.times(power(-depth)));
            }
        }
        return reduced(sum);
    }

    private static Exact reduced(Exact x) {
        BigInteger g = x.num.gcd(x.den);
        return g.signum() == 0 ? x : new Exact(x.num.divide(g), x.den.divide(g), x.isRoot);
    }

    private static int bitAt(StringBuilder text, int i) {
        return i < text.length() && text.charAt(i) == '1' ? 1 : 0;
    }

    static int round(Exact x, int n) {
        if (x.num.signum() == 0) {
            return 0;
        }
        long p = roundMagnitude(x, n);
        return (int) (x.num.signum() < 0 ? -p : p);
    }

    private static long roundMagnitude(Exact x, int n) {
        long largest = (1L << (n - 1)) - 1;
        if (x.compareMagnitude(positiveValue(largest, n)) > 0) {
            return largest;
        }
        if (x.compareMagnitude(positiveValue(1, n)) < 0) {
            return 1;
        }
        long low = 1;
        long high = largest;
        while (low < high) {
            long middle = (low + high + 1) / 2;
            if (x.compareMagnitude(positiveValue(middle, n)) >= 0) {
                low = middle;
            } else {
                high = middle - 1;
            }
        }
        if (x.compareMagnitude(positiveValue(low, n)) == 0) {
            return low;
        }
        int side = x.compareMagnitude(positiveValue(2 * low + 1, n + 1));
        if (side != 0) {
            return side < 0 ? low : low + 1;
        }
        return low % 2 == 0 ? low : low + 1;
    }

    private int pattern(long x) {
        long low = x & ((1L << n) - 1);
        return (int) (low >= 1L << (n - 1) ? low - (1L << n) : low);
    }

    private static int not(int n) {
        return (int) -(1L << (n - 1));
    }

    private boolean isNot(int x) {
        return pattern(x) == not(n);
    }

    Exact value(int x) {
        int p = pattern(x);
        if (p == 0) {
            return wholeNumber(BigInteger.ZERO);
        }
        return p > 0 ? positiveValue(p, n) : positiveValue(-(long) p, n).negative();
    }

    int bits() {
        return n;
    }

    int add(int x, int y) {
        return isNot(x) || isNot(y) ? not(n) : round(value(x).plus(value(y)), n);
    }

    int subtract(int x, int y) {
        return isNot(x) || isNot(y) ? not(n) : round(value(x).plus(value(y).negative()), n);
    }

    int multiply(int x, int y) {
        return isNot(x) || isNot(y) ? not(n) : round(value(x).times(value(y)), n);
    }

    int divide(int x, int y) {
        return isNot(x) || isNot(y) || pattern(y) == 0 ? not(n) : round(value(x).over(value(y)), n);
    }

    int root(int x) {
        return isNot(x) || pattern(x) < 0 ? not(n) : round(value(x).root(), n);
    }

    int fused(int x, int y, int z) {
        return isNot(x) || isNot(y) || isNot(z) ? not(n) : round(value(x).times(value(y)).plus(value(z)), n);
    }

    private static BigInteger nearestWhole(Exact x) {
        BigInteger two = BigInteger.TWO;
        BigInteger[] parts = x.num.abs().divideAndRemainder(x.den);
        int side = parts[1].multiply(two).compareTo(x.den);
        boolean up = side > 0 || side == 0 && parts[0].testBit(0);
        BigInteger magnitude = up ? parts[0].add(BigInteger.ONE) : parts[0];
        return x.num.signum() < 0 ? magnitude.negate() : magnitude;
    }

    int whole(int x) {
        return isNot(x) ? not(n) : round(wholeNumber(nearestWhole(value(x))), n);
    }

    int next(int p) {
        return pattern((long) p + 1);
    }

    int fromLong(long v) {
        return v == Long.MIN_VALUE ? not(n) : round(wholeNumber(BigInteger.valueOf(v)), n);
    }

    long toLong(int x) {
        if (isNot(x)) {
            return Long.MIN_VALUE;
        }
        BigInteger nearest = nearestWhole(value(x));
        return nearest.bitLength() > 63 ? Long.MIN_VALUE : nearest.longValue();
    }

    int convert(int x, int width) {
        int target = bitsOf(width);
        return isNot(x) ? not(target) : round(value(x), target);
    }

    private BigInteger sumNot() {
        return BigInteger.ONE.shiftLeft(16 * n - 1).negate();
    }

    private BigInteger wrapped(BigInteger i) {
        BigInteger modulus = BigInteger.ONE.shiftLeft(16 * n);
        BigInteger low = i.mod(modulus);
        return low.testBit(16 * n - 1) ? low.subtract(modulus) : low;
    }

    private static boolean isSum(int q) {
        return q == 0 || q == 1;
    }

    boolean clear(int q) {
        if (isSum(q)) {
            sums[q] = BigInteger.ZERO;
        }
        return isSum(q);
    }

    boolean collect(int q, int x, int y, boolean minus) {
        if (!isSum(q)) {
            return false;
        }
        if (sums[q].equals(sumNot()) || isNot(x) || isNot(y)) {
            sums[q] = sumNot();
            return true;
        }
        Exact units = value(x).times(value(y)).times(power(8 * n - 16));
        BigInteger[] parts = units.num.divideAndRemainder(units.den);
        if (parts[1].signum() != 0) {
            throw new IllegalStateException("a product is no whole number of units");
        }
        sums[q] = wrapped(minus ? sums[q].subtract(parts[0]) : sums[q].add(parts[0]));
        return true;
    }

    boolean merge(int q) {
        if (!isSum(q)) {
            return false;
        }
        boolean not = sums[0].equals(sumNot()) || sums[1].equals(sumNot());
        sums[q] = not ? sumNot() : wrapped(sums[0].add(sums[1]));
        return true;
    }

    boolean negate(int q) {
        if (isSum(q) && !sums[q].equals(sumNot())) {
            sums[q] = sums[q].negate();
        }
        return isSum(q);
    }

    int total(int q) {
        if (!isSum(q) || sums[q].equals(sumNot())) {
            return not(n);
        }
        return round(wholeNumber(sums[q]).times(power(16 - 8 * n)), n);
    }

    long word(int q, int k) {
        return isSum(q) && k >= 0 && k < 16 * n / 64 ? sums[q].shiftRight(64 * k).longValue() : 0;
    }

    int compare(int x, int y) {
        return Integer.signum(Integer.compare(pattern(x), pattern(y)));
    }
}
