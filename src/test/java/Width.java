import java.math.BigInteger;

/**
 * One width as the document's "Terms" put it, for the tests of single sentences: its edges, patterns
 * written down bit by bit, and sums made of single powers of two. It shares nothing with the class
 * under test, nor with {@link Reference}.
 */
final class Width {
    /** Numbers that are no sum's; the last four are 0 and 1 to one who looks at few bits alone. */
    static final int[] NO_SUMS = {-1, 2, 3, -2, Integer.MAX_VALUE, Integer.MIN_VALUE, 256, 257, 65537,
        Integer.MIN_VALUE + 1};

    final int width;
    final int n;
    final int not;
    final int largest;
    final int one;
    /** The bit of a sum that stands for 1. */
    final int placeOfOne;
    /** The patterns of the powers of two from the least value's on; 0 where a power has none. */
    private final int[] powers;
    private final String sentence;
    private final Check check;

    Width(int width, String sentence, Check check) {
        this.width = width;
        this.sentence = sentence;
        this.check = check;
        n = bitsOf(width);
        not = notOf(width);
        largest = -(not + 1);
        one = 1 << (n - 2);
        placeOfOne = 8 * n - 16;
        powers = new int[2 * (4 * n - 8) + 1];
        for (int scale = 8 - 4 * n; scale <= 4 * n - 8; scale++) {
            boolean cut = text(scale, "").indexOf('1', n) >= 0;
            powers[scale + 4 * n - 8] = cut ? 0 : pattern(scale, "");
        }
    }

    static int bitsOf(int width) {
        return new int[] {8, 16, 32}[width];
    }

    static int notOf(int width) {
        return new int[] {-128, -32768, Integer.MIN_VALUE}[width];
    }

    TaperedQuire object() {
        return new TaperedQuire(width);
    }

    void due(String call, long got, long want) {
        check.due(sentence + ": " + n + " bits: " + call, got, want);
    }

    void due(String call, boolean got, boolean want) {
        check.due(sentence + ": " + n + " bits: " + call, got, want);
    }

    /** (1 + f) * 2^scale, with f's bits as text. */
    int pattern(int scale, String f) {
        return Math.toIntExact(Long.parseLong(text(scale, f).substring(0, n), 2));
    }

    int power(int scale) {
        if (!hasPower(scale)) {
            throw new IllegalArgumentException("no pattern of " + n + " bits for 2^" + scale);
        }
        return powers[scale + 4 * n - 8];
    }

    boolean hasPower(int scale) {
        return Math.abs(scale) <= 4 * n - 8 && powers[scale + 4 * n - 8] != 0;
    }

    /** How many bits of the fraction there are between 2^scale and twice that; -1 and less: bits of e lack. */
    int fractionBits(int scale) {
        int r = Math.floorDiv(scale, 4);
        int run = r >= 0 ? r + 2 : 1 - r;
        return n - 1 - run - 2;
    }

    private String text(int scale, String f) {
        int r = Math.floorDiv(scale, 4);
        int e = Math.floorMod(scale, 4);
        String run = r >= 0 ? "1".repeat(r + 1) + "0" : "0".repeat(-r) + "1";
        return "0" + run + e / 2 + e % 2 + f + "0".repeat(n);
    }

    /** Patterns at which something changes, with their negatives, 0 and without NOT. */
    int[] edges() {
        int[] positive = {1, 2, 3, 4, one / 2, one - 1, one, one + 1, one + one / 8, one + one / 4, one + one / 2,
            largest - 3, largest - 2, largest - 1, largest};
        int[] all = new int[2 * positive.length + 1];
        for (int i = 0; i < positive.length; i++) {
            all[2 * i] = positive[i];
            all[2 * i + 1] = -positive[i];
        }
        return all;
    }

    /** The same pattern with other bits above the lowest n; in 32 bits there are none above. */
    int[] higherBits() {
        if (n == 32) {
            return new int[] {0};
        }
        return new int[] {1 << n, -1 << n, 1 << 30, Integer.MIN_VALUE, 0x55555555 << n, 0xAAAAAAAA << n};
    }

    static BigInteger two(int exponent) {
        return BigInteger.ONE.shiftLeft(exponent);
    }

    /** 2^scale as units of a sum. */
    BigInteger units(int scale) {
        return two(scale + placeOfOne);
    }

    BigInteger largestSum() {
        return two(16 * n - 1).subtract(BigInteger.ONE);
    }

    BigInteger sumNot() {
        return two(16 * n - 1).negate();
    }

    void sumDue(String call, TaperedQuire t, int q, BigInteger want) {
        for (int k = 0; k < n / 4; k++) {
            due(call + ", word(" + q + ", " + k + ")", t.word(q, k), want.shiftRight(64 * k).longValue());
        }
    }

    /** What a pattern stands for, as the units that its product with 1 adds to a sum. */
    void valueDue(int pattern, BigInteger want) {
        TaperedQuire t = object();
        t.collect(0, pattern, one, false);
        sumDue("the value of " + pattern, t, 0, want);
    }

    /** Adds 2^scale to sum q; what no product of two powers is, is added in 2, 4 or 8 parts. */
    void addPower(TaperedQuire t, int q, int scale, boolean minus) {
        for (int halvings = 0; halvings <= 3; halvings++) {
            int sum = scale - halvings;
            for (int a = 8 - 4 * n; a <= 4 * n - 8; a++) {
                if (hasPower(a) && hasPower(sum - a)) {
                    for (int i = 0; i < 1 << halvings; i++) {
                        t.collect(q, power(a), power(sum - a), minus);
                    }
                    return;
                }
            }
        }
        throw new IllegalArgumentException("no products add up to 2^" + scale);
    }

    /** Makes sum q 2^(16 n - 2) out of largest^2, in 93 calls; the other one is 0 then. */
    void makeHalfOfTheRange(TaperedQuire t, int q) {
        t.clear(q);
        t.collect(q, largest, largest, false);
        for (int i = 0; i < 30; i++) {
            twice(t, q);
        }
        t.clear(1 - q);
    }

    /** Makes sum q twice what it is, and the other one what it was. */
    void twice(TaperedQuire t, int q) {
        t.clear(1 - q);
        t.merge(1 - q);
        t.merge(q);
    }

    /** Makes sum q the largest integer that it can be; the other one is 0 then. */
    void makeLargest(TaperedQuire t, int q) {
        makeHalfOfTheRange(t, q);
        t.merge(1 - q);
        t.collect(q, 1, 1, true);
        // In this order it does not come by -2^(16 n - 1), which is NOT and would stay.
        t.merge(q);
        t.clear(1 - q);
    }
}
