import java.math.BigInteger;

/** "Terms": what a pattern is and what it stands for, sentence by sentence. */
final class TermsTest {
    public static void main(String[] args) {
        Sentences s = new Sentences("TermsTest");
        s.inEachWidth("a pattern is answered as a two's-complement int", TermsTest::answeredAsTwosComplement);
        s.inEachWidth("of an int that is handed in, the lowest n bits are the pattern", TermsTest::lowestBits);
        s.inEachWidth("of an int that is handed in, no bit of the n is left out", TermsTest::allOfTheLowestBits);
        s.inEachWidth("the pattern -2^(n - 1) is NOT", TermsTest::notANumber);
        s.inEachWidth("no other pattern is NOT", TermsTest::noOtherIsNot);
        s.inEachWidth("the pattern 0 is 0", TermsTest::zero);
        s.inEachWidth("the value of a negative pattern p is minus the value of -p", TermsTest::negativePatterns);
        s.inEachWidth("a run of k >= 1 ones, r = k - 1", TermsTest::runsOfOnes);
        s.inEachWidth("a run of k >= 1 zeros, r = -k", TermsTest::runsOfZeros);
        s.inEachWidth("or the pattern ends", TermsTest::runToTheEnd);
        s.inEachWidth("then two bits, e = 0 .. 3", TermsTest::exponentBits);
        s.inEachWidth("the fraction's bits stand for 1/2, 1/4, 1/8, ..", TermsTest::fractionBits);
        s.inEachWidth("bits behind the pattern's end count as 0", TermsTest::bitsBehindTheEnd);
        s.inEachWidth("larger patterns have larger values", TermsTest::largerPatterns);
        s.inEachWidth("the largest value is 2^(4 n - 8)", TermsTest::largestValue);
        s.inEachWidth("the least positive value is its inverse", TermsTest::leastValue);
        s.end();
    }

    private static void answeredAsTwosComplement(Width w) {
        TaperedQuire t = w.object();
        w.due("add(-1, 0)", t.add(-w.one, 0), -w.one);
        w.due("subtract(0, 1)", t.subtract(0, w.one), -w.one);
        w.due("multiply(-1, 1)", t.multiply(-w.one, w.one), -w.one);
        w.due("divide(-1, 1)", t.divide(-w.one, w.one), -w.one);
        w.due("fused(-1, 1, 0)", t.fused(-w.one, w.one, 0), -w.one);
        w.due("whole(-1)", t.whole(-w.one), -w.one);
        w.due("next(-2)", t.next(-2), -1);
        w.due("fromLong(-1)", t.fromLong(-1), -w.one);
        w.due("convert(-1)", t.convert(-w.one, w.width), -w.one);
        t.collect(0, w.one, w.one, true);
        w.due("total(0)", t.total(0), -w.one);
        w.due("root(-1)", t.root(-w.one), w.not);
        w.due("the largest one", t.add(w.largest, 0), w.largest);
        w.due("the least one", t.add(-w.largest, 0), -w.largest);
    }

    private static void lowestBits(Width w) {
        int two = w.power(1);
        int four = w.power(2);
        for (int h : w.higherBits()) {
            TaperedQuire t = w.object();
            w.due("add, x + " + h, t.add(w.one ^ h, w.one), two);
            w.due("add, y + " + h, t.add(w.one, w.one ^ h), two);
            w.due("subtract, x + " + h, t.subtract(two ^ h, w.one), w.one);
            w.due("subtract, y + " + h, t.subtract(two, w.one ^ h), w.one);
            w.due("multiply, x + " + h, t.multiply(two ^ h, two), four);
            w.due("multiply, y + " + h, t.multiply(two, two ^ h), four);
            w.due("divide, x + " + h, t.divide(four ^ h, two), two);
            w.due("divide, y + " + h, t.divide(four, two ^ h), two);
            w.due("root, x + " + h, t.root(four ^ h), two);
            w.due("fused, x + " + h, t.fused(w.one ^ h, two, two), four);
            w.due("fused, y + " + h, t.fused(w.one, two ^ h, two), four);
            w.due("fused, z + " + h, t.fused(w.one, two, two ^ h), four);
            w.due("whole of 5/4, x + " + h, t.whole(w.pattern(0, "01") ^ h), w.one);
            w.due("whole of 2, x + " + h, t.whole(two ^ h), two);
            w.due("next, p + " + h, t.next(two ^ h), two + 1);
            w.due("next of -1, p + " + h, t.next(-1 ^ h), 0);
            w.due("toLong, x + " + h, t.toLong(four ^ h), 4);
            w.due("convert, x + " + h, t.convert(two ^ h, 2), 1207959552);
            w.due("compare, x + " + h, t.compare(two ^ h, four), -1);
            w.due("compare, y + " + h, t.compare(four, two ^ h), 1);
            w.due("compare of the same, x + " + h, t.compare(two ^ h, two), 0);
            t.collect(0, two ^ h, two, false);
            t.collect(1, two, two ^ h, false);
            w.sumDue("collect, x + " + h, t, 0, w.units(2));
            w.sumDue("collect, y + " + h, t, 1, w.units(2));
            w.due("a 0, y + " + h, t.divide(two, h), w.not);
            w.due("a NOT, x + " + h, t.add(w.not ^ h, two), w.not);
            w.due("a negative one, x + " + h, t.root(-w.one ^ h), w.not);
        }
    }

    private static void allOfTheLowestBits(Width w) {
        for (int bit = 0; bit < w.n; bit++) {
            int p = 1 << bit;
            int read = bit == w.n - 1 ? w.not : p;
            TaperedQuire t = w.object();
            w.due("add(" + p + ", 0)", t.add(p, 0), read);
            w.due("multiply(1, " + p + ")", t.multiply(w.one, p), read);
            w.due("convert(" + p + ")", t.convert(p, w.width), read);
            w.due("next(" + p + ")", t.next(p), read + 1);
            w.due("compare(" + p + ", 0)", t.compare(p, 0), read < 0 ? -1 : 1);
            t.collect(0, p, w.one, false);
            w.due("total of " + p, t.total(0), read);
        }
    }

    private static void notANumber(Width w) {
        for (int h : w.higherBits()) {
            int not = w.not ^ h;
            TaperedQuire t = w.object();
            w.due("add", t.add(not, 0), w.not);
            w.due("subtract", t.subtract(not, 0), w.not);
            w.due("multiply", t.multiply(not, w.one), w.not);
            w.due("divide", t.divide(not, w.one), w.not);
            w.due("root", t.root(not), w.not);
            w.due("fused", t.fused(not, w.one, 0), w.not);
            w.due("whole", t.whole(not), w.not);
            w.due("toLong", t.toLong(not), Long.MIN_VALUE);
            w.due("convert", t.convert(not, w.width), w.not);
            t.collect(0, not, w.one, false);
            w.due("total", t.total(0), w.not);
        }
    }

    private static void noOtherIsNot(Width w) {
        for (int p : w.edges()) {
            TaperedQuire t = w.object();
            w.due("add(" + p + ", 0)", t.add(p, 0), p);
            w.due("convert(" + p + ")", t.convert(p, w.width), p);
            w.due("toLong(" + p + ") is that of NOT", t.toLong(p) == Long.MIN_VALUE,
                w.n == 32 && Math.abs(p) >= w.largest - 3);
            t.collect(0, p, p, false);
            w.due("total of its square is NOT, of " + p, t.total(0) == w.not, false);
        }
    }

    private static void zero(Width w) {
        w.valueDue(0, BigInteger.ZERO);
        for (int p : w.edges()) {
            TaperedQuire t = w.object();
            w.due("add(0, " + p + ")", t.add(0, p), p);
            w.due("subtract(" + p + ", 0)", t.subtract(p, 0), p);
            w.due("multiply(0, " + p + ")", t.multiply(0, p), 0);
            w.due("fused(0, 0, " + p + ")", t.fused(0, 0, p), p);
            t.collect(0, 0, p, false);
            w.sumDue("collect(0, 0, " + p + ")", t, 0, BigInteger.ZERO);
        }
        w.due("root(0)", w.object().root(0), 0);
        w.due("whole(0)", w.object().whole(0), 0);
        w.due("toLong(0)", w.object().toLong(0), 0);
        w.due("convert(0)", w.object().convert(0, 2), 0);
    }

    private static void negativePatterns(Width w) {
        w.valueDue(-1, w.units(8 - 4 * w.n).negate());
        w.valueDue(-w.largest, w.units(4 * w.n - 8).negate());
        w.valueDue(-w.one, w.units(0).negate());
        w.valueDue(-w.pattern(0, "1"), w.units(0).add(w.units(-1)).negate());
        w.valueDue(-w.pattern(-3, "01"), w.units(-3).add(w.units(-5)).negate());
        for (int p : w.edges()) {
            TaperedQuire t = w.object();
            t.collect(0, p, w.one, false);
            t.collect(0, -p, w.one, false);
            w.sumDue("the values of " + p + " and its negative", t, 0, BigInteger.ZERO);
        }
    }

    private static void runsOfOnes(Width w) {
        for (int k = 1; k <= w.n - 2; k++) {
            int p = ((1 << k) - 1) << (w.n - 1 - k);
            w.valueDue(p, w.units(4 * (k - 1)));
        }
    }

    private static void runsOfZeros(Width w) {
        for (int k = 1; k <= w.n - 2; k++) {
            int p = 1 << (w.n - 2 - k);
            w.valueDue(p, w.units(-4 * k));
        }
    }

    private static void runToTheEnd(Width w) {
        w.valueDue(w.largest, w.units(4 * (w.n - 2)));
        w.valueDue(-w.largest, w.units(4 * (w.n - 2)).negate());
    }

    private static void exponentBits(Width w) {
        for (int k = 1; k <= w.n - 4; k++) {
            for (int e = 0; e <= 3; e++) {
                int place = w.n - 4 - k;
                int ones = ((1 << k) - 1) << (w.n - 1 - k) | e << place;
                w.valueDue(ones, w.units(4 * (k - 1) + e));
                int zeros = 1 << (w.n - 2 - k) | e << place;
                w.valueDue(zeros, w.units(-4 * k + e));
            }
        }
    }

    private static void fractionBits(Width w) {
        int bits = w.n - 5;
        BigInteger all = w.units(0);
        BigInteger allOfAnEighth = w.units(-3);
        for (int depth = 1; depth <= bits; depth++) {
            int bit = 1 << (bits - depth);
            w.valueDue(w.one | bit, w.units(0).add(w.units(-depth)));
            w.valueDue(w.power(-3) | bit, w.units(-3).add(w.units(-3 - depth)));
            all = all.add(w.units(-depth));
            allOfAnEighth = allOfAnEighth.add(w.units(-3 - depth));
        }
        w.valueDue(w.one | ((1 << bits) - 1), all);
        w.valueDue(w.power(-3) | ((1 << bits) - 1), allOfAnEighth);
        // The last run with a fraction has one bit of it.
        w.valueDue(w.largest - 14, w.units(4 * w.n - 24).add(w.units(4 * w.n - 25)));
        w.valueDue(9, w.units(20 - 4 * w.n).add(w.units(19 - 4 * w.n)));
    }

    private static void bitsBehindTheEnd(Width w) {
        int n = w.n;
        // Neither bit of e is there.
        w.valueDue(w.largest, w.units(4 * n - 8));
        w.valueDue(w.largest - 1, w.units(4 * n - 12));
        w.valueDue(1, w.units(8 - 4 * n));
        // The first bit of e is there, the second is not.
        w.valueDue(w.largest - 2, w.units(4 * n - 14));
        w.valueDue(w.largest - 3, w.units(4 * n - 16));
        w.valueDue(2, w.units(12 - 4 * n));
        w.valueDue(3, w.units(14 - 4 * n));
        // Both are there, and nothing of the fraction.
        for (int e = 0; e <= 3; e++) {
            w.valueDue(w.largest - 7 + e, w.units(4 * n - 20 + e));
            w.valueDue(4 + e, w.units(16 - 4 * n + e));
        }
    }

    private static void largerPatterns(Width w) {
        if (w.n < 32) {
            for (int p = -w.largest; p < w.largest; p++) {
                largerValue(w, p);
            }
            return;
        }
        for (int bit = 0; bit < w.n - 1; bit++) {
            for (int near = -3; near <= 3; near++) {
                largerValue(w, (1 << bit) + near);
                largerValue(w, -(1 << bit) + near);
                largerValue(w, w.largest - (1 << bit) + near);
                largerValue(w, -w.largest + (1 << bit) + near);
            }
        }
    }

    private static void largerValue(Width w, int p) {
        if (p <= w.not || p >= w.largest) {
            return;
        }
        TaperedQuire t = w.object();
        t.collect(0, p + 1, w.one, false);
        t.collect(0, p, w.one, true);
        w.due("the value of " + p + " + 1 is larger", t.word(0, w.n / 4 - 1) >= 0 && t.total(0) > 0, true);
    }

    private static void largestValue(Width w) {
        w.valueDue(w.largest, w.units(4 * w.n - 8));
        TaperedQuire t = w.object();
        t.collect(0, w.largest, w.largest, false);
        w.sumDue("its square", t, 0, Width.two(16 * w.n - 32));
        w.due("1 / least", t.divide(w.one, 1), w.largest);
        w.due("its root", t.root(w.largest), w.power(2 * w.n - 4));
        if (w.n < 32) {
            w.due("toLong", t.toLong(w.largest), 1L << (4 * w.n - 8));
        }
    }

    private static void leastValue(Width w) {
        w.valueDue(1, w.units(8 - 4 * w.n));
        TaperedQuire t = w.object();
        t.collect(0, 1, 1, false);
        w.sumDue("its square", t, 0, BigInteger.ONE);
        w.due("1 / largest", t.divide(w.one, w.largest), 1);
        w.due("largest * least", t.multiply(w.largest, 1), w.one);
        w.due("its root", t.root(1), w.power(4 - 2 * w.n));
    }
}
