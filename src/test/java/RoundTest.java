import java.math.BigInteger;
import java.util.ArrayList;
import java.util.List;

/**
 * "To ROUND": each sentence in each call that can meet it. Between 1 and 2 a step is s = 2^(5 - n),
 * so that one + k is 1 + k s.
 */
final class RoundTest {
    public static void main(String[] args) {
        Sentences s = new Sentences("RoundTest");
        s.inEachWidth("above the largest value it becomes that", RoundTest::aboveTheLargest);
        s.inEachWidth("above the largest value, a long", RoundTest::longAboveTheLargest);
        s.inEachWidth("above the largest value, from more bits", RoundTest::convertedAboveTheLargest);
        s.inEachWidth("above the largest value, a sum", RoundTest::sumAboveTheLargest);
        s.inEachWidth("below the least positive one it becomes that", RoundTest::belowTheLeast);
        s.inEachWidth("below the least positive one, from more bits", RoundTest::convertedBelowTheLeast);
        s.inEachWidth("below the least positive one, a sum", RoundTest::sumBelowTheLeast);
        s.inEachWidth("if |x| is the value of a pattern, it is that", RoundTest::exactValues);
        s.inEachWidth("if |x| is the value of a pattern, a root", RoundTest::exactRoots);
        s.inEachWidth("u below v, u + 1 above, the even one at v: a sum", RoundTest::sumsAtTheMiddle);
        s.inEachWidth("u below v, u + 1 above, by one far bit", RoundTest::farBits);
        s.inEachWidth("u below v, u + 1 above, the even one at v: add", RoundTest::additions);
        s.inEachWidth("u below v, u + 1 above, the even one at v: subtract", RoundTest::subtractions);
        s.inEachWidth("u below v, u + 1 above, the even one at v: multiply", RoundTest::products);
        s.inEachWidth("u below v, u + 1 above, the even one at v: divide", RoundTest::quotients);
        s.inEachWidth("u below v, u + 1 above: root", RoundTest::roots);
        s.inEachWidth("u below v, u + 1 above, the even one at v: fused", RoundTest::fusedOnes);
        s.inEachWidth("u below v, u + 1 above, the even one at v: fromLong", RoundTest::longs);
        s.inEachWidth("u below v, u + 1 above, the even one at v: convert", RoundTest::conversions);
        s.inEachWidth("v is a pattern of one bit more, no mean: multiply, divide", RoundTest::middlesOfExponents);
        s.inEachWidth("0 is rounded to the pattern 0", RoundTest::zeros);
        s.end();
    }

    private static void aboveTheLargest(Width w) {
        TaperedQuire t = w.object();
        int big = w.largest;
        w.due("largest + least", t.add(big, 1), big);
        w.due("-largest - least", t.add(-big, -1), -big);
        w.due("largest + largest", t.add(big, big), big);
        w.due("-largest + -largest", t.add(-big, -big), -big);
        w.due("largest - -least", t.subtract(big, -1), big);
        w.due("-largest - largest", t.subtract(-big, big), -big);
        w.due("largest * what is next to 1", t.multiply(big, w.one + 1), big);
        w.due("largest * -what is next to 1", t.multiply(big, -w.one - 1), -big);
        w.due("largest * largest", t.multiply(big, big), big);
        w.due("largest * -largest", t.multiply(big, -big), -big);
        w.due("largest / what is before 1", t.divide(big, w.one - 1), big);
        w.due("largest / -what is before 1", t.divide(big, 1 - w.one), -big);
        w.due("largest / least", t.divide(big, 1), big);
        w.due("-largest / least", t.divide(-big, 1), -big);
        w.due("largest * 1 + least", t.fused(big, w.one, 1), big);
        w.due("-largest * 1 - least", t.fused(-big, w.one, -1), -big);
        w.due("largest * largest + largest", t.fused(big, big, big), big);
        w.due("largest * largest - largest", t.fused(big, big, -big), big);
        w.due("largest * -largest + largest", t.fused(big, -big, big), -big);
    }

    private static void longAboveTheLargest(Width w) {
        TaperedQuire t = w.object();
        if (w.n == 32) {
            // No long is above 2^120.
            w.due("fromLong(2^63 - 1)", t.fromLong(Long.MAX_VALUE), w.power(63));
            w.due("fromLong(1 - 2^63)", t.fromLong(-Long.MAX_VALUE), -w.power(63));
            return;
        }
        long value = 1L << (4 * w.n - 8);
        for (long v : new long[] {value, value + 1, 2 * value, Long.MAX_VALUE}) {
            w.due("fromLong(" + v + ")", t.fromLong(v), w.largest);
            w.due("fromLong(" + -v + ")", t.fromLong(-v), -w.largest);
        }
    }

    private static void convertedAboveTheLargest(Width w) {
        w.due("convert(largest)", w.object().convert(w.largest, w.width), w.largest);
        for (int from = w.width + 1; from <= 2; from++) {
            int shift = Width.bitsOf(from) - w.n;
            int value = w.largest << shift;
            int most = -(Width.notOf(from) + 1);
            for (int p : new int[] {value, value + 1, value + (1 << (shift - 1)), most}) {
                w.due("convert(" + p + ") from width " + from, new TaperedQuire(from).convert(p, w.width), w.largest);
                w.due("convert(" + -p + ") from width " + from, new TaperedQuire(from).convert(-p, w.width), -w.largest);
            }
        }
    }

    private static void sumAboveTheLargest(Width w) {
        TaperedQuire t = w.object();
        t.collect(0, w.largest, w.one, false);
        w.due("largest", t.total(0), w.largest);
        t.collect(0, 1, 1, false);
        w.due("largest and a unit", t.total(0), w.largest);
        t.negate(0);
        w.due("its negative", t.total(0), -w.largest);
        t.clear(0);
        t.collect(0, w.largest, w.largest, false);
        w.due("largest * largest", t.total(0), w.largest);
        t.negate(0);
        w.due("its negative", t.total(0), -w.largest);
        w.makeLargest(t, 0);
        w.due("the largest sum", t.total(0), w.largest);
        t.negate(0);
        w.due("the least sum", t.total(0), -w.largest);
    }

    private static void belowTheLeast(Width w) {
        TaperedQuire t = w.object();
        w.due("least * what is before 1", t.multiply(1, w.one - 1), 1);
        w.due("-least * what is before 1", t.multiply(-1, w.one - 1), -1);
        w.due("least * least", t.multiply(1, 1), 1);
        w.due("least * -least", t.multiply(1, -1), -1);
        w.due("-least * -least", t.multiply(-1, -1), 1);
        w.due("least / what is next to 1", t.divide(1, w.one + 1), 1);
        w.due("least / -what is next to 1", t.divide(1, -w.one - 1), -1);
        w.due("least / largest", t.divide(1, w.largest), 1);
        w.due("-least / largest", t.divide(-1, w.largest), -1);
        w.due("least * least + 0", t.fused(1, 1, 0), 1);
        w.due("least * -least + 0", t.fused(1, -1, 0), -1);
        w.due("least * least - least", t.fused(1, 1, -1), -1);
        w.due("least * -least + least", t.fused(1, -1, 1), 1);
        w.due("least * what is before 1 - least", t.fused(1, w.one - 1, -1), -1);
        w.due("least / 16 - least", t.fused(1, w.power(-4), -1), -1);
    }

    private static void convertedBelowTheLeast(Width w) {
        w.due("convert(1)", w.object().convert(1, w.width), 1);
        for (int from = w.width + 1; from <= 2; from++) {
            int value = 1 << (Width.bitsOf(from) - w.n);
            for (int p : new int[] {1, 2, value / 2, value - 1, value}) {
                w.due("convert(" + p + ") from width " + from, new TaperedQuire(from).convert(p, w.width), 1);
                w.due("convert(" + -p + ") from width " + from, new TaperedQuire(from).convert(-p, w.width), -1);
            }
        }
    }

    private static void sumBelowTheLeast(Width w) {
        for (int scale = 16 - 8 * w.n; scale < 8 - 4 * w.n; scale++) {
            TaperedQuire t = w.object();
            w.addPower(t, 0, scale, false);
            w.due("2^" + scale, t.total(0), 1);
            t.negate(0);
            w.due("-2^" + scale, t.total(0), -1);
        }
        TaperedQuire t = w.object();
        t.collect(0, 1, w.one, false);
        w.due("least", t.total(0), 1);
        t.collect(0, 1, 1, true);
        w.due("least less a unit", t.total(0), 1);
        t.negate(0);
        w.due("its negative", t.total(0), -1);
    }

    private static void exactValues(Width w) {
        if (w.n < 32) {
            for (int p = -w.largest; p <= w.largest; p++) {
                exactValue(w, p);
            }
            return;
        }
        for (int bit = 0; bit < w.n - 1; bit++) {
            for (int p : new int[] {1 << bit, (1 << bit) - 1, (1 << bit) + 1, 0x55555555 >> bit, 0x33333333 >> bit}) {
                exactValue(w, p);
                exactValue(w, -p);
                exactValue(w, w.largest - p);
                exactValue(w, p - w.largest);
            }
        }
    }

    private static void exactValue(Width w, int p) {
        if (p == w.not) {
            return;
        }
        TaperedQuire t = w.object();
        w.due(p + " + 0", t.add(p, 0), p);
        w.due("0 + " + p, t.add(0, p), p);
        w.due(p + " - 0", t.subtract(p, 0), p);
        w.due("0 - " + p, t.subtract(0, p), -p);
        w.due(p + " * 1", t.multiply(p, w.one), p);
        w.due("-1 * " + p, t.multiply(-w.one, p), -p);
        w.due(p + " / 1", t.divide(p, w.one), p);
        w.due(p + " / -1", t.divide(p, -w.one), -p);
        w.due(p + " * 1 + 0", t.fused(p, w.one, 0), p);
        w.due("0 * 0 + " + p, t.fused(0, 0, p), p);
        w.due("convert(" + p + ")", t.convert(p, w.width), p);
        for (int wider = w.width + 1; wider <= 2; wider++) {
            w.due("convert(" + p + ", " + wider + ")", t.convert(p, wider), p << (Width.bitsOf(wider) - w.n));
        }
        t.collect(0, p, w.one, false);
        w.due("total of " + p, t.total(0), p);
    }

    private static void exactRoots(Width w) {
        TaperedQuire t = w.object();
        for (int scale = 4 - 2 * w.n; scale <= 2 * w.n - 4; scale++) {
            if (w.hasPower(2 * scale)) {
                w.due("root of 4^" + scale, t.root(w.power(2 * scale)), w.power(scale));
            }
        }
        w.due("root of 9/4", t.root(w.pattern(1, "001")), w.pattern(0, "1"));
        w.due("root of 9/16", t.root(w.pattern(-1, "001")), w.pattern(-1, "1"));
    }

    /** u, and v as powers of two, of which those in less are taken away. */
    private record Middle(int u, int[] powers, int[] less) {
        static Middle of(int u, int... powers) {
            return new Middle(u, powers, new int[0]);
        }

        Middle without(int... taken) {
            return new Middle(u, powers, taken);
        }

        int even() {
            return u + (u & 1);
        }

        int lastPower() {
            return less.length > 0 ? less[less.length - 1] : powers[powers.length - 1];
        }

        TaperedQuire inSum(Width w, int q) {
            TaperedQuire t = w.object();
            for (int scale : powers) {
                w.addPower(t, q, scale, false);
            }
            for (int scale : less) {
                w.addPower(t, q, scale, true);
            }
            return t;
        }
    }

    private static List<Middle> middles(Width w) {
        int n = w.n;
        int s = 5 - n;
        List<Middle> all = new ArrayList<>(List.of(
            // Bits of e are cut off.
            Middle.of(1, 10 - 4 * n),
            Middle.of(2, 13 - 4 * n),
            Middle.of(3, 15 - 4 * n),
            Middle.of(w.largest - 3, 4 * n - 15),
            Middle.of(w.largest - 2, 4 * n - 13),
            Middle.of(w.largest - 1, 4 * n - 10),
            // All bits of the fraction are set, or all but the last.
            Middle.of(w.one - 2, 0).without(s - 1, s - 2),
            Middle.of(w.one - 1, 0).without(s - 2)));
        for (int scale = 16 - 4 * n; scale <= 4 * n - 17; scale++) {
            int step = scale - w.fractionBits(scale);
            all.add(Middle.of(w.power(scale), scale, step - 1));
            if (step < scale) {
                all.add(Middle.of(w.power(scale) + 1, scale, step, step - 1));
            }
        }
        return all;
    }

    private static void sumsAtTheMiddle(Width w) {
        for (Middle m : middles(w)) {
            for (int side = -1; side <= 1; side++) {
                TaperedQuire t = m.inSum(w, 0);
                if (side != 0) {
                    t.collect(0, 1, 1, side < 0);
                }
                int want = side < 0 ? m.u : side > 0 ? m.u + 1 : m.even();
                w.due("at " + side + " of the middle behind " + m.u, t.total(0), want);
                t.negate(0);
                w.due("at " + -side + " of the middle before " + -m.u, t.total(0), -want);
            }
        }
    }

    /** A bit behind the middle counts, however far it is; so does one that is missing. */
    private static void farBits(Width w) {
        for (Middle m : middles(w)) {
            for (int scale = m.lastPower() - 1; scale >= 16 - 8 * w.n; scale--) {
                TaperedQuire above = m.inSum(w, 1);
                w.addPower(above, 1, scale, false);
                w.due("2^" + scale + " above the middle behind " + m.u, above.total(1), m.u + 1);
                above.negate(1);
                w.due("2^" + scale + " below the middle before " + -m.u, above.total(1), -m.u - 1);
                TaperedQuire below = m.inSum(w, 1);
                w.addPower(below, 1, scale, true);
                w.due("2^" + scale + " below the middle behind " + m.u, below.total(1), m.u);
                below.negate(1);
                w.due("2^" + scale + " above the middle before " + -m.u, below.total(1), -m.u);
            }
        }
    }

    private static void additions(Width w) {
        int half = w.power(4 - w.n);
        addition(w, w.one, half, w.one);
        addition(w, w.one + 1, half, w.one + 2);
        addition(w, w.one, half + 1, w.one + 1);
        addition(w, w.one + 1, half - 1, w.one + 1);
        addition(w, w.one, -w.power(3 - w.n), w.one);
        addition(w, w.one - 1, w.power(3 - w.n), w.one);
        addition(w, w.one - 1, -w.power(3 - w.n), w.one - 2);
    }

    private static void addition(Width w, int x, int y, int want) {
        TaperedQuire t = w.object();
        w.due("add(" + x + ", " + y + ")", t.add(x, y), want);
        w.due("add(" + y + ", " + x + ")", t.add(y, x), want);
        w.due("add(" + -x + ", " + -y + ")", t.add(-x, -y), -want);
    }

    private static void subtractions(Width w) {
        int quarter = w.power(3 - w.n);
        subtraction(w, w.one, quarter, w.one);
        subtraction(w, w.one - 1, quarter, w.one - 2);
        subtraction(w, w.one, quarter + 1, w.one - 1);
        subtraction(w, w.one - 1, quarter - 1, w.one - 1);
        subtraction(w, w.one + 1, w.power(4 - w.n), w.one);
        subtraction(w, w.one + 2, w.power(4 - w.n), w.one + 2);
    }

    private static void subtraction(Width w, int x, int y, int want) {
        TaperedQuire t = w.object();
        w.due("subtract(" + x + ", " + y + ")", t.subtract(x, y), want);
        w.due("subtract(" + y + ", " + x + ")", t.subtract(y, x), -want);
        w.due("subtract(" + -x + ", " + -y + ")", t.subtract(-x, -y), -want);
    }

    private static void products(Width w) {
        int h = w.pattern(0, "1");
        // 3/2 * (1 + s) = 3/2 + 3/2 s
        product(w, h, w.one + 1, h + 2);
        // 3/2 * (1 - s) = 3/2 - 3/2 s
        product(w, h, w.one - 2, h - 2);
        // (3/2 + s) * (1 + s) = 3/2 + 5/2 s + s^2
        product(w, h + 1, w.one + 1, h + 3);
        // (3/2 - 2 s) * (1 + s) = 3/2 - 1/2 s - 2 s^2
        product(w, h - 2, w.one + 1, h - 1);
    }

    private static void product(Width w, int x, int y, int want) {
        TaperedQuire t = w.object();
        w.due("multiply(" + x + ", " + y + ")", t.multiply(x, y), want);
        w.due("multiply(" + y + ", " + x + ")", t.multiply(y, x), want);
        w.due("multiply(" + -x + ", " + y + ")", t.multiply(-x, y), -want);
        w.due("multiply(" + -x + ", " + -y + ")", t.multiply(-x, -y), want);
    }

    /** From 16 on a step is twice as wide: 16 (1 + s) lies in the middle of one. */
    private static void quotients(Width w) {
        int sixteen = w.power(4);
        int sixteenth = w.power(-4);
        quotient(w, w.one + 1, sixteenth, sixteen);
        quotient(w, w.one + 3, sixteenth, sixteen + 2);
        // 1 / (1 - s) = 1 + s + s^2 + ..
        quotient(w, w.one, sixteenth - 1, sixteen + 1);
        // (1 + 4 s) / (1 + s) = 1 + 3 s - 3 s^2 + ..
        quotient(w, w.one + 4, sixteenth + 1, sixteen + 1);
    }

    private static void quotient(Width w, int x, int y, int want) {
        TaperedQuire t = w.object();
        w.due("divide(" + x + ", " + y + ")", t.divide(x, y), want);
        w.due("divide(" + -x + ", " + y + ")", t.divide(-x, y), -want);
        w.due("divide(" + x + ", " + -y + ")", t.divide(x, -y), -want);
        w.due("divide(" + -x + ", " + -y + ")", t.divide(-x, -y), want);
    }

    /** A root is no v, as v's square has more bits than there are: it lies between two of them. */
    private static void roots(Width w) {
        TaperedQuire t = w.object();
        // (1 + 3 s)^(1/2) = 1 + 3/2 s - 9/8 s^2 + ..
        w.due("root(1 + s)", t.root(w.one + 1), w.one);
        w.due("root(1 + 3 s)", t.root(w.one + 3), w.one + 1);
        w.due("root(1 - s/2)", t.root(w.one - 1), w.one - 1);
        int steps = 1 << (w.n - 5);
        int stride = w.n < 32 ? 1 : 1 + steps / 4096;
        for (int k = 1; k < steps; k += stride) {
            rootOf(w, k, 1);
            rootOf(w, k, 2);
        }
        if (w.n == 32) {
            // Of all these roots the nearest ones above v, behind an even u, and below v, behind an odd one.
            rootOf(w, 72349114, 1);
            rootOf(w, 67814735, 1);
            rootOf(w, 80155956, 2);
            rootOf(w, 100623733, 2);
            rootOf(w, 3, 1);
            rootOf(w, 108119838, 1);
            rootOf(w, 134217727, 2);
            rootOf(w, 46555430, 2);
        }
    }

    /** The root of times (1 + k s): where it lies between 1 and 2, as many steps as its square tells. */
    private static void rootOf(Width w, int k, int times) {
        int x = times == 1 ? w.one + k : w.power(1) + k;
        int got = w.object().root(x);
        BigInteger steps = BigInteger.valueOf(1L << (w.n - 5));
        BigInteger square = steps.add(BigInteger.valueOf(k)).multiply(BigInteger.valueOf(4L * times)).multiply(steps);
        BigInteger twice = steps.add(BigInteger.valueOf(got - w.one)).multiply(BigInteger.TWO);
        w.due("root(" + x + ") = " + got + " is not too large", twice.subtract(BigInteger.ONE).pow(2).compareTo(square) < 0, true);
        w.due("root(" + x + ") = " + got + " is not too small", twice.add(BigInteger.ONE).pow(2).compareTo(square) > 0, true);
    }

    private static void fusedOnes(Width w) {
        int h = w.pattern(0, "1");
        fused(w, h, w.one + 1, 0, h + 2);
        fused(w, h, w.one + 1, -1, h + 1);
        fused(w, h, w.one + 1, 1, h + 2);
        fused(w, h, w.one - 2, 0, h - 2);
        fused(w, h, w.one - 2, -1, h - 2);
        fused(w, h, w.one - 2, 1, h - 1);
        // Here z is the one that is rounded, and the product the far bit.
        fused(w, w.power(4 - w.n), w.one, w.one, w.one);
        fused(w, w.power(4 - w.n), w.one + 1, w.one, w.one + 1);
        fused(w, w.power(4 - w.n), w.one - 1, w.one + 1, w.one + 1);
        fused(w, 1, 1, w.one, w.one);
        fused(w, 1, -1, w.one, w.one);
    }

    private static void fused(Width w, int x, int y, int z, int want) {
        TaperedQuire t = w.object();
        w.due("fused(" + x + ", " + y + ", " + z + ")", t.fused(x, y, z), want);
        w.due("fused(" + y + ", " + x + ", " + z + ")", t.fused(y, x, z), want);
        w.due("fused(" + -x + ", " + y + ", " + -z + ")", t.fused(-x, y, -z), -want);
        w.due("fused(" + -x + ", " + -y + ", " + z + ")", t.fused(-x, -y, z), want);
    }

    private static void longs(Width w) {
        // From 2^scale on a step is so wide.
        int scale = new int[] {4, 12, 24}[w.width];
        long step = new long[] {4, 16, 8}[w.width];
        long low = 1L << scale;
        int p = w.power(scale);
        longOf(w, low, p);
        longOf(w, low + 1, p);
        longOf(w, low + step / 2 - 1, p);
        longOf(w, low + step / 2, p);
        longOf(w, low + step / 2 + 1, p + 1);
        longOf(w, low + step, p + 1);
        longOf(w, low + step + step / 2 - 1, p + 1);
        longOf(w, low + step + step / 2, p + 2);
        longOf(w, low + step + step / 2 + 1, p + 2);
        // Of a long with bits from the first to the last the last one decides.
        long top = new long[] {1L << 22, 1L << 54, 1L << 62}[w.width];
        int q = w.n < 32 ? w.largest - 1 : w.power(62);
        long half = w.n < 32 ? 0 : 1L << 49;
        longOf(w, top + half - 1, q);
        longOf(w, top + half, q);
        longOf(w, top + half + 1, q + 1);
    }

    private static void longOf(Width w, long v, int want) {
        TaperedQuire t = w.object();
        w.due("fromLong(" + v + ")", t.fromLong(v), want);
        w.due("fromLong(" + -v + ")", t.fromLong(-v), -want);
    }

    private static void conversions(Width w) {
        // What is written with more bits has the n + 1 bits that decide in front.
        for (int from = w.width + 1; from <= 2; from++) {
            int shift = Width.bitsOf(from) - w.n;
            for (int u = 1; u < w.largest; u++) {
                int v = (u << shift) + (1 << (shift - 1));
                TaperedQuire t = new TaperedQuire(from);
                w.due("convert below the middle behind " + u, t.convert(v - 1, w.width), u);
                w.due("convert of the middle behind " + u, t.convert(v, w.width), u + (u & 1));
                w.due("convert above the middle behind " + u, t.convert(v + 1, w.width), u + 1);
                w.due("convert of the middle before " + -u, t.convert(-v, w.width), -u - (u & 1));
                w.due("convert above the middle before " + -u, t.convert(1 - v, w.width), -u);
                w.due("convert below the middle before " + -u, t.convert(-v - 1, w.width), -u - 1);
            }
        }
        // No pattern has more than 32 bits: to these nothing is rounded.
        for (int p : w.edges()) {
            w.due("convert(" + p + ", 2)", w.object().convert(p, 2), p << (32 - w.n));
        }
    }

    /** Where the bits of e are cut off, v is 2 or 4 times u: not the mean of the two values. */
    private static void middlesOfExponents(Width w) {
        int n = w.n;
        int half = w.power(-1);
        int quarter = w.power(-2);
        product(w, 2, quarter, 2);
        product(w, 2, quarter - 1, 1);
        product(w, 3, half, 2);
        product(w, 3, half - 1, 2);
        product(w, 3, half + 1, 3);
        product(w, 4, half, 4);
        product(w, 4, half - 1, 3);
        product(w, w.largest, quarter, w.largest - 1);
        product(w, w.largest, quarter + 1, w.largest);
        product(w, w.largest, quarter - 1, w.largest - 1);
        product(w, w.largest - 1, half, w.largest - 1);
        product(w, w.largest - 1, half - 1, w.largest - 2);
        product(w, w.largest - 2, half, w.largest - 3);
        product(w, w.largest - 2, half + 1, w.largest - 2);
        quotient(w, 1, quarter, 2);
        quotient(w, 1, quarter + 1, 1);
        quotient(w, w.largest, w.power(2), w.largest - 1);
        quotient(w, w.largest, w.power(2) - 1, w.largest);
        // 2^(4 n - 10) is far below the mean of 2^(4 n - 12) and 2^(4 n - 8).
        TaperedQuire t = w.object();
        t.collect(0, w.power(2 * n - 5), w.power(2 * n - 5), false);
        t.collect(0, w.power(2 * n - 6), w.power(2 * n - 5), false);
        w.due("2^(4 n - 10) and half as much", t.total(0), w.largest);
    }

    private static void zeros(Width w) {
        TaperedQuire t = w.object();
        for (int p : w.edges()) {
            w.due(p + " - " + p, t.subtract(p, p), 0);
            w.due(p + " + " + -p, t.add(p, -p), 0);
            w.due(p + " * 0", t.multiply(p, 0), 0);
            w.due("0 * " + p, t.multiply(0, p), 0);
            w.due(p + " * 0 + 0", t.fused(p, 0, 0), 0);
            w.due(p + " * 1 - " + p, t.fused(p, w.one, -p), 0);
            if (p != 0) {
                w.due("0 / " + p, t.divide(0, p), 0);
            }
        }
        TaperedQuire b = w.object();
        w.due("root(0)", b.root(0), 0);
        w.due("whole(least)", b.whole(1), 0);
        w.due("whole(-least)", b.whole(-1), 0);
        w.due("fromLong(0)", b.fromLong(0), 0);
        for (int to = 0; to <= 2; to++) {
            w.due("convert(0, " + to + ")", b.convert(0, to), 0);
        }
        w.due("total of a new sum", b.total(0), 0);
        b.collect(1, w.largest, w.largest, false);
        b.collect(1, w.largest, w.largest, true);
        w.due("total of what is gone again", b.total(1), 0);
    }
}
