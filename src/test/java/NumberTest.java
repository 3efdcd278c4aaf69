/** The promises 1 to 13 and 20, sentence by sentence; how they round is told by {@link RoundTest}. */
final class NumberTest {
    /** Those behind the first three are 0 or 1 to one who looks at few bits alone. */
    private static final int[] OTHER_WIDTHS = {3, 4, -1, 256, 257, 65536, 65537, Integer.MAX_VALUE,
        Integer.MIN_VALUE, Integer.MIN_VALUE + 1, 8, 16, 32};

    public static void main(String[] args) {
        Sentences s = new Sentences("NumberTest");
        objects(s);
        arithmetic(s);
        wholeNumbers(s);
        patterns(s);
        s.end();
    }

    private static void objects(Sentences s) {
        s.inEachWidth("1: n is 8 for width 0, 16 for width 1, 32 for width 2", NumberTest::widths);
        s.inEachWidth("1: 32 for every other width", NumberTest::otherWidths);
        s.inEachWidth("1: both sums are 0", NumberTest::newSums);
        s.inEachWidth("2: n", NumberTest::bits);
    }

    private static void arithmetic(Sentences s) {
        s.inEachWidth("3: add is NOT when x or y is", NumberTest::addNot);
        s.inEachWidth("4: subtract is NOT when x or y is", NumberTest::subtractNot);
        s.inEachWidth("5: multiply is NOT when x or y is", NumberTest::multiplyNot);
        s.inEachWidth("6: divide is NOT when x or y is", NumberTest::divideNot);
        s.inEachWidth("6: divide is NOT when y is 0", NumberTest::divideByZero);
        s.inEachWidth("7: root is NOT when x is", NumberTest::rootOfNot);
        s.inEachWidth("7: root is NOT when x is negative", NumberTest::rootOfNegative);
        s.inEachWidth("7: root of 0 and of the least positive is none", NumberTest::rootOfTheLeast);
        s.inEachWidth("8: fused is rounded once", NumberTest::fusedOnce);
        s.inEachWidth("8: fused is NOT when one of them is", NumberTest::fusedNot);
    }

    private static void wholeNumbers(Sentences s) {
        s.inEachWidth("9: the whole number nearest to x", NumberTest::wholeNearest);
        s.inEachWidth("9: of two that are equally near the even one", NumberTest::wholeEven);
        s.inEachWidth("9: whole is NOT when x is", NumberTest::wholeOfNot);
        s.inEachWidth("11: v rounded", NumberTest::fromLongs);
        s.inEachWidth("11: NOT for -2^63", NumberTest::fromLeastLong);
        s.inEachWidth("12: the whole number nearest to x", NumberTest::toLongNearest);
        s.inEachWidth("12: of two that are equally near the even one", NumberTest::toLongEven);
        s.inEachWidth("12: -2^63 when x is NOT", NumberTest::toLongOfNot);
        s.inEachWidth("12: -2^63 when that number is no long", NumberTest::toLongTooLarge);
    }

    private static void patterns(Sentences s) {
        s.inEachWidth("10: the pattern p + 1", NumberTest::next);
        s.inEachWidth("10: behind the largest value comes NOT", NumberTest::nextOfLargest);
        s.inEachWidth("10: behind NOT the least value", NumberTest::nextOfNot);
        s.inEachWidth("13: another width, as in the constructor", NumberTest::convertWidths);
        s.inEachWidth("13: a pattern of so many bits, as an int", NumberTest::convertAsInt);
        s.inEachWidth("13: that width's NOT when x is NOT", NumberTest::convertNot);
        s.inEachWidth("20: 0 when x and y are the same pattern", NumberTest::compareSame);
        s.inEachWidth("20: -1 when x is less, else 1", NumberTest::compareOthers);
    }

    private static void widths(Width w) {
        TaperedQuire t = w.object();
        w.due("bits()", t.bits(), w.n);
        w.due("behind the largest", t.next(w.largest), w.not);
        w.due("1", t.fromLong(1), w.one);
        t.collect(0, 1, 1, true);
        w.due("the sum's last word", t.word(0, w.n / 4 - 1), -1);
        w.due("the word behind it", t.word(0, w.n / 4), 0);
    }

    private static void otherWidths(Width w) {
        for (int width : OTHER_WIDTHS) {
            TaperedQuire t = new TaperedQuire(width);
            w.due("bits() of width " + width, t.bits(), 32);
            w.due("next of width " + width, t.next(Integer.MAX_VALUE), Integer.MIN_VALUE);
            w.due("fromLong(1) of width " + width, t.fromLong(1), 1 << 30);
            w.due("convert of width " + width, t.convert(1 << 30, w.width), w.one);
            t.collect(1, 1, 1, true);
            w.due("the last word of width " + width, t.word(1, 7), -1);
            w.due("the word behind it", t.word(1, 8), 0);
        }
    }

    private static void newSums(Width w) {
        TaperedQuire t = w.object();
        for (int q = 0; q <= 1; q++) {
            for (int k = 0; k < w.n / 4; k++) {
                w.due("word(" + q + ", " + k + ")", t.word(q, k), 0);
            }
            w.due("total(" + q + ")", t.total(q), 0);
        }
        // What one object sums is not another's.
        t.collect(0, w.one, w.one, false);
        t.collect(1, w.not, w.one, false);
        TaperedQuire other = w.object();
        w.due("total(0) of another object", other.total(0), 0);
        w.due("total(1) of another object", other.total(1), 0);
    }

    private static void bits(Width w) {
        TaperedQuire t = w.object();
        w.due("at first", t.bits(), w.n);
        for (int width = 0; width <= 3; width++) {
            t.convert(w.one, width);
            w.due("after a convert", t.bits(), w.n);
        }
        t.collect(0, w.not, w.not, false);
        new TaperedQuire(0);
        w.due("after NOT and another object", t.bits(), w.n);
    }

    private static void addNot(Width w) {
        for (int p : w.edges()) {
            w.due("add(NOT, " + p + ")", w.object().add(w.not, p), w.not);
            w.due("add(" + p + ", NOT)", w.object().add(p, w.not), w.not);
        }
        w.due("add(NOT, NOT)", w.object().add(w.not, w.not), w.not);
    }

    private static void subtractNot(Width w) {
        for (int p : w.edges()) {
            w.due("subtract(NOT, " + p + ")", w.object().subtract(w.not, p), w.not);
            w.due("subtract(" + p + ", NOT)", w.object().subtract(p, w.not), w.not);
        }
        w.due("subtract(NOT, NOT)", w.object().subtract(w.not, w.not), w.not);
    }

    private static void multiplyNot(Width w) {
        for (int p : w.edges()) {
            w.due("multiply(NOT, " + p + ")", w.object().multiply(w.not, p), w.not);
            w.due("multiply(" + p + ", NOT)", w.object().multiply(p, w.not), w.not);
        }
        w.due("multiply(NOT, NOT)", w.object().multiply(w.not, w.not), w.not);
    }

    private static void divideNot(Width w) {
        for (int p : w.edges()) {
            w.due("divide(NOT, " + p + ")", w.object().divide(w.not, p), w.not);
            w.due("divide(" + p + ", NOT)", w.object().divide(p, w.not), w.not);
        }
        w.due("divide(NOT, NOT)", w.object().divide(w.not, w.not), w.not);
    }

    private static void divideByZero(Width w) {
        for (int p : w.edges()) {
            w.due("divide(" + p + ", 0)", w.object().divide(p, 0), w.not);
            if (p != 0) {
                w.due("divide(" + p + ", " + p + ")", w.object().divide(p, p), w.one);
            }
        }
        w.due("divide(NOT, 0)", w.object().divide(w.not, 0), w.not);
    }

    private static void rootOfNot(Width w) {
        w.due("root(NOT)", w.object().root(w.not), w.not);
    }

    private static void rootOfNegative(Width w) {
        for (int p : w.edges()) {
            w.due("root(" + p + ") is NOT", w.object().root(p) == w.not, p < 0);
        }
        for (int bit = 0; bit < w.n; bit++) {
            w.due("root(-2^" + bit + ")", w.object().root(-1 << bit), w.not);
        }
    }

    private static void rootOfTheLeast(Width w) {
        w.due("root(0)", w.object().root(0), 0);
        w.due("root(1)", w.object().root(1), w.power(4 - 2 * w.n));
        w.due("root(largest)", w.object().root(w.largest), w.power(2 * w.n - 4));
    }

    private static void fusedOnce(Width w) {
        int s = 5 - w.n;
        // (1 + s)^2 = 1 + 2 s + s^2, of which the product alone would keep no s^2.
        fusedDue(w, w.one + 1, w.one + 1, -w.one - 2, w.power(2 * s));
        // 3/2 (1 + s) = 3/2 + 3/2 s, which alone is rounded up.
        int h = w.pattern(0, "1");
        fusedDue(w, h, w.one + 1, -h - 1, w.power(s - 1));
        fusedDue(w, h, w.one + 1, -1, h + 1);
        fusedDue(w, w.largest, w.largest, -w.largest, w.largest);
        // The product alone would become the least positive one.
        fusedDue(w, 1, w.power(-4), 1, 1);
        fusedDue(w, 1, 1, w.one, w.one);
        fusedDue(w, w.largest, w.power(1), -w.largest, w.largest);
        fusedDue(w, w.power(4 - w.n), w.one - 1, w.one, w.one);
    }

    private static void fusedDue(Width w, int x, int y, int z, int want) {
        w.due("fused(" + x + ", " + y + ", " + z + ")", w.object().fused(x, y, z), want);
        w.due("fused(" + -x + ", " + y + ", " + -z + ")", w.object().fused(-x, y, -z), -want);
    }

    private static void fusedNot(Width w) {
        for (int p : w.edges()) {
            w.due("fused(NOT, " + p + ", " + p + ")", w.object().fused(w.not, p, p), w.not);
            w.due("fused(" + p + ", NOT, " + p + ")", w.object().fused(p, w.not, p), w.not);
            w.due("fused(" + p + ", " + p + ", NOT)", w.object().fused(p, p, w.not), w.not);
            w.due("fused(NOT, NOT, " + p + ")", w.object().fused(w.not, w.not, p), w.not);
            w.due("fused(NOT, " + p + ", NOT)", w.object().fused(w.not, p, w.not), w.not);
            w.due("fused(" + p + ", NOT, NOT)", w.object().fused(p, w.not, w.not), w.not);
        }
        w.due("fused(NOT, NOT, NOT)", w.object().fused(w.not, w.not, w.not), w.not);
    }

    /** A number with its whole number, as pattern and as long, both with either sign. */
    private static void wholeDue(Width w, int x, int want) {
        w.due("whole(" + x + ")", w.object().whole(x), want);
        w.due("whole(" + -x + ")", w.object().whole(-x), -want);
    }

    private static void longDue(Width w, int x, long want) {
        w.due("toLong(" + x + ")", w.object().toLong(x), want);
        w.due("toLong(" + -x + ")", w.object().toLong(-x), -want);
    }

    private static void wholeNearest(Width w) {
        int half = w.power(-1);
        int[] wholeOnes = {0, w.one, w.power(1), w.pattern(1, "1"), w.power(2), w.largest - 1, w.largest};
        for (int p : wholeOnes) {
            wholeDue(w, p, p);
        }
        for (int p : new int[] {1, 2, 3, w.power(-4), w.power(-2), half - 1}) {
            wholeDue(w, p, 0);
        }
        wholeDue(w, half + 1, w.one);
        wholeDue(w, w.one - 1, w.one);
        wholeDue(w, w.one + 1, w.one);
        wholeDue(w, w.pattern(0, "1") - 1, w.one);
        wholeDue(w, w.pattern(0, "1") + 1, w.power(1));
        wholeDue(w, w.pattern(1, "01") - 1, w.power(1));
        wholeDue(w, w.pattern(1, "01") + 1, w.pattern(1, "1"));
        wholeDue(w, w.pattern(1, "11") - 1, w.pattern(1, "1"));
        wholeDue(w, w.pattern(1, "11") + 1, w.power(2));
        // The last number with a half, and the one behind it, which is whole.
        int scale = new int[] {2, 8, 21}[w.width];
        wholeDue(w, w.power(scale + 1) - 1, w.power(scale + 1));
        wholeDue(w, w.power(scale + 1), w.power(scale + 1));
        wholeDue(w, w.power(scale + 1) + 1, w.power(scale + 1) + 1);
    }

    private static void wholeEven(Width w) {
        wholeDue(w, w.power(-1), 0);
        wholeDue(w, w.pattern(0, "1"), w.power(1));
        wholeDue(w, w.pattern(1, "01"), w.power(1));
        wholeDue(w, w.pattern(1, "11"), w.power(2));
        wholeDue(w, w.pattern(2, "001"), w.power(2));
    }

    private static void wholeOfNot(Width w) {
        w.due("whole(NOT)", w.object().whole(w.not), w.not);
    }

    private static void fromLongs(Width w) {
        TaperedQuire t = w.object();
        w.due("fromLong(0)", t.fromLong(0), 0);
        w.due("fromLong(1)", t.fromLong(1), w.one);
        w.due("fromLong(-1)", t.fromLong(-1), -w.one);
        w.due("fromLong(3)", t.fromLong(3), w.pattern(1, "1"));
        w.due("fromLong(-3)", t.fromLong(-3), -w.pattern(1, "1"));
        int most = w.n < 32 ? w.largest : w.power(63);
        w.due("fromLong(2^63 - 1)", t.fromLong(Long.MAX_VALUE), most);
        w.due("fromLong(1 - 2^63)", t.fromLong(-Long.MAX_VALUE), -most);
        for (int scale = 0; scale < 63; scale++) {
            if (w.hasPower(scale)) {
                w.due("fromLong(2^" + scale + ")", t.fromLong(1L << scale), w.power(scale));
                w.due("fromLong(-2^" + scale + ")", t.fromLong(-1L << scale), -w.power(scale));
            }
        }
    }

    private static void fromLeastLong(Width w) {
        w.due("fromLong(-2^63)", w.object().fromLong(Long.MIN_VALUE), w.not);
        w.due("fromLong(1 - 2^63) is NOT", w.object().fromLong(Long.MIN_VALUE + 1) == w.not, false);
        w.due("fromLong(-2^62) is NOT", w.object().fromLong(Long.MIN_VALUE / 2) == w.not, false);
    }

    private static void toLongNearest(Width w) {
        int half = w.power(-1);
        longDue(w, 0, 0);
        longDue(w, 1, 0);
        longDue(w, half - 1, 0);
        longDue(w, half + 1, 1);
        longDue(w, w.one - 1, 1);
        longDue(w, w.one, 1);
        longDue(w, w.pattern(0, "1") - 1, 1);
        longDue(w, w.pattern(0, "1") + 1, 2);
        longDue(w, w.pattern(1, "01") - 1, 2);
        longDue(w, w.pattern(1, "01") + 1, 3);
        longDue(w, w.pattern(1, "1"), 3);
        for (int scale = 0; scale < 63; scale++) {
            if (w.hasPower(scale)) {
                longDue(w, w.power(scale), 1L << scale);
            }
        }
    }

    private static void toLongEven(Width w) {
        longDue(w, w.power(-1), 0);
        longDue(w, w.pattern(0, "1"), 2);
        longDue(w, w.pattern(1, "01"), 2);
        longDue(w, w.pattern(1, "11"), 4);
        longDue(w, w.pattern(2, "001"), 4);
    }

    private static void toLongOfNot(Width w) {
        w.due("toLong(NOT)", w.object().toLong(w.not), Long.MIN_VALUE);
    }

    private static void toLongTooLarge(Width w) {
        if (w.n < 32) {
            // 2^24 and 2^56 are longs, so that every number of 8 or 16 bits has one.
            longDue(w, w.largest, 1L << (4 * w.n - 8));
            longDue(w, w.largest - 1, 1L << (4 * w.n - 12));
            return;
        }
        int behind = w.power(63);
        longDue(w, behind - 1, Long.MAX_VALUE - (1L << 50) + 1);
        for (int p : new int[] {behind, behind + 1, w.power(64), w.power(65), w.power(96), w.largest - 1, w.largest}) {
            w.due("toLong(" + p + ")", w.object().toLong(p), Long.MIN_VALUE);
            w.due("toLong(" + -p + ")", w.object().toLong(-p), Long.MIN_VALUE);
        }
    }

    private static void next(Width w) {
        for (int p : w.edges()) {
            if (p != w.largest) {
                w.due("next(" + p + ")", w.object().next(p), p + 1);
            }
        }
        w.due("next(-1)", w.object().next(-1), 0);
        w.due("next(0)", w.object().next(0), 1);
    }

    private static void nextOfLargest(Width w) {
        for (int h : w.higherBits()) {
            w.due("next(largest), higher bits " + h, w.object().next(w.largest ^ h), w.not);
        }
    }

    private static void nextOfNot(Width w) {
        for (int h : w.higherBits()) {
            w.due("next(NOT), higher bits " + h, w.object().next(w.not ^ h), -w.largest);
        }
    }

    private static void convertWidths(Width w) {
        for (int to = 0; to <= 2; to++) {
            w.due("convert(1, " + to + ")", w.object().convert(w.one, to), 1 << (Width.bitsOf(to) - 2));
        }
        for (int to : OTHER_WIDTHS) {
            w.due("convert(1, " + to + ")", w.object().convert(w.one, to), 1 << 30);
            w.due("convert(NOT, " + to + ")", w.object().convert(w.not, to), Integer.MIN_VALUE);
        }
    }

    private static void convertAsInt(Width w) {
        for (int to = 0; to <= 2; to++) {
            int one = 1 << (Width.bitsOf(to) - 2);
            w.due("convert(-1, " + to + ")", w.object().convert(-w.one, to), -one);
            w.due("convert(-2, " + to + ")", w.object().convert(-w.power(1), to), -one - one / 8);
        }
        for (int to = w.width; to <= 2; to++) {
            int shift = Width.bitsOf(to) - w.n;
            for (int p : w.edges()) {
                w.due("convert(" + p + ", " + to + ")", w.object().convert(p, to), p << shift);
            }
        }
    }

    private static void convertNot(Width w) {
        for (int to = 0; to <= 2; to++) {
            w.due("convert(NOT, " + to + ")", w.object().convert(w.not, to), Width.notOf(to));
            w.due("convert(what is behind NOT, " + to + ") is NOT",
                w.object().convert(w.not + 1, to) == Width.notOf(to), false);
        }
    }

    private static void compareSame(Width w) {
        for (int h : w.higherBits()) {
            for (int p : w.edges()) {
                w.due("compare(" + (p ^ h) + ", " + p + ")", w.object().compare(p ^ h, p), 0);
                w.due("compare(" + p + ", " + (p ^ h) + ")", w.object().compare(p, p ^ h), 0);
            }
            w.due("compare(NOT, NOT)", w.object().compare(w.not, w.not ^ h), 0);
        }
    }

    private static void compareOthers(Width w) {
        int[] edges = w.edges();
        for (int x : edges) {
            for (int y : edges) {
                if (x != y) {
                    w.due("compare(" + x + ", " + y + ")", w.object().compare(x, y), x < y ? -1 : 1);
                }
            }
            w.due("compare(NOT, " + x + ")", w.object().compare(w.not, x), -1);
            w.due("compare(" + x + ", NOT)", w.object().compare(x, w.not), 1);
        }
        w.due("compare(largest, -largest)", w.object().compare(w.largest, -w.largest), 1);
        w.due("compare(-largest, largest)", w.object().compare(-w.largest, w.largest), -1);
    }
}
