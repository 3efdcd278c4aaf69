/**
 * Patterns of n bits as doubles, each of which holds its value exactly, and the document's rounding as
 * a question: is this answer the due one? A second reference beside {@link Reference}, sharing nothing
 * with it, and quick enough for millions of answers.
 */
final class Doubles {
    /** The magnitude of an exact number, told by how it compares with a double. */
    interface Magnitude {
        int against(double v);
    }

    private final int n;
    private final int largest;

    Doubles(int n) {
        this.n = n;
        largest = (int) ((1L << (n - 1)) - 1);
    }

    int not() {
        return -largest - 1;
    }

    double value(int pattern) {
        if (pattern == 0) {
            return 0;
        }
        return pattern > 0 ? positiveValue(pattern, n) : -positiveValue(-(long) pattern, n);
    }

    private static double positiveValue(long pattern, int bits) {
        int at = bits - 2;
        long first = bitAt(pattern, at);
        int k = 0;
        while (at >= 0 && bitAt(pattern, at) == first) {
            k++;
            at--;
        }
        long r = first == 1 ? k - 1 : -k;
        long e = 2 * bitAt(pattern, at - 1) + bitAt(pattern, at - 2);
        int places = Math.max(at - 2, 0);
        double f = Math.scalb((double) (pattern & ((1L << places) - 1)), -places);
        return Math.scalb(1 + f, (int) (4 * r + e));
    }

    /** The bit at this place; behind the pattern's end it counts as 0. */
    private static long bitAt(long pattern, int place) {
        return place >= 0 ? pattern >> place & 1 : 0;
    }

    /** What decides between u and u + 1. */
    private double middle(int u) {
        return positiveValue(2L * u + 1, n + 1);
    }

    /** Whether a number of this sign (-1, 0, 1) and magnitude, rounded, is the answer. */
    boolean isDue(int answer, double sign, Magnitude m) {
        if (sign == 0) {
            return answer == 0;
        }
        int p = sign < 0 ? -answer : answer;
        if (p < 1) {
            return false;
        }
        int even = p % 2 == 0 ? 1 : 0;
        boolean notTooLow = p == 1 || m.against(middle(p - 1)) + even > 0;
        boolean notTooHigh = p == largest || m.against(middle(p)) - even < 0;
        return notTooLow && notTooHigh;
    }

    boolean isDue(int answer, double exact) {
        return isDue(answer, exact, v -> Double.compare(Math.abs(exact), v));
    }

    /** Whether a + b, rounded, is the answer. */
    boolean isSum(int answer, double a, double b) {
        double near = a + b;
        double above = near - a;
        double rest = (a - (near - above)) + (b - above);
        return isDue(answer, Math.signum(near), v -> against(Math.abs(near), near < 0 ? -rest : rest, v));
    }

    /** Whether a * b, rounded, is the answer. */
    boolean isProduct(int answer, double a, double b) {
        double near = Math.abs(a * b);
        double rest = Math.fma(Math.abs(a), Math.abs(b), -near);
        return isDue(answer, Math.signum(a) * Math.signum(b), v -> against(near, rest, v));
    }

    /** Whether a / b, rounded, is the answer: |a| / |b| is to v as |a| is to v * |b|. */
    boolean isQuotient(int answer, double a, double b) {
        return isDue(answer, Math.signum(a) * Math.signum(b), v -> againstProduct(Math.abs(a), v, Math.abs(b)));
    }

    /** Whether the root of a, rounded, is the answer: it is to v as a is to v * v. */
    boolean isRoot(int answer, double a) {
        return isDue(answer, Math.signum(a), v -> againstProduct(a, v, v));
    }

    /** How near + rest compares with v, when near is the double nearest to that sum. */
    private static int against(double near, double rest, double v) {
        return near != v ? Double.compare(near, v) : (int) Math.signum(rest);
    }

    private static int againstProduct(double a, double v, double w) {
        double near = v * w;
        return -against(near, Math.fma(v, w, -near), a);
    }
}
