import java.math.BigInteger;

/** "A SUM", and the promises 14 to 19 that speak of the sums, sentence by sentence. */
final class SumTest {
    private static final BigInteger ONE = BigInteger.ONE;
    private static final BigInteger TWO = BigInteger.TWO;
    private static final BigInteger ZERO = BigInteger.ZERO;
    private static final BigInteger FIFTEEN = BigInteger.valueOf(15);

    public static void main(String[] args) {
        Sentences s = new Sentences("SumTest");
        terms(s);
        clearAndCollect(s);
        mergeAndNegate(s);
        totalAndWord(s);
        s.end();
    }

    private static void terms(Sentences s) {
        s.inEachWidth("a sum is 16 * n bits, read as a two's-complement integer", SumTest::sixteenTimesN);
        s.inEachWidth("the integer -2^(16 n - 1) is NOT", SumTest::leastIntegerIsNot);
        s.inEachWidth("any other stands for i * 2^(16 - 8 n)", SumTest::otherIntegersAreNumbers);
        s.inEachWidth("any other stands for i * 2^(16 - 8 n), with one bit but the first", SumTest::oneBitMoreThanNot);
        s.inEachWidth("every product is a whole number of these units", SumTest::productsAreUnits);
        s.inEachWidth("every product is a whole number of these units, of all bits", SumTest::longProducts);
        s.inEachWidth("additions wrap: collect upwards", SumTest::collectWrapsUpwards);
        s.inEachWidth("additions wrap: collect downwards", SumTest::collectWrapsDownwards);
        s.inEachWidth("additions wrap: merge", SumTest::mergeWraps);
        s.inEachWidth("if these are the ones of NOT, the sum is NOT: collect", SumTest::collectMeetsNot);
        s.inEachWidth("if these are the ones of NOT, the sum is NOT: merge", SumTest::mergeMeetsNot);
        s.inEachWidth("the sum is NOT from then on", SumTest::notFromThenOn);
        s.inEachWidth("there are two sums, 0 and 1", SumTest::twoSums);
    }

    private static void clearAndCollect(Sentences s) {
        s.inEachWidth("14: makes sum q 0, and answers true", SumTest::cleared);
        s.inEachWidth("14: false when q is not 0 or 1", SumTest::clearRefused);
        s.inEachWidth("15: adds x * y to sum q and answers true", SumTest::collected);
        s.inEachWidth("15: minus: subtracts it", SumTest::collectedMinus);
        s.inEachWidth("15: a product of 0", SumTest::collectedZero);
        s.inEachWidth("15: false, changing nothing, when q is not 0 or 1", SumTest::collectRefused);
        s.inEachWidth("15: a sum that is NOT stays so", SumTest::collectedIntoNot);
        s.inEachWidth("15: it becomes NOT when x or y is", SumTest::collectedNot);
    }

    private static void mergeAndNegate(Sentences s) {
        s.inEachWidth("16: adds the other sum to sum q and answers true", SumTest::merged);
        s.inEachWidth("16: false, changing nothing, when q is not 0 or 1", SumTest::mergeRefused);
        s.inEachWidth("16: when one of them is NOT, sum q is", SumTest::mergedNot);
        s.inEachWidth("17: makes sum q what stands for its negative", SumTest::negated);
        s.inEachWidth("17: NOT stays NOT", SumTest::negatedNot);
        s.inEachWidth("17: false, changing nothing, when q is not 0 or 1", SumTest::negateRefused);
    }

    private static void totalAndWord(Sentences s) {
        s.inEachWidth("18: what sum q stands for, rounded", SumTest::totalled);
        s.inEachWidth("18: NOT when the sum is", SumTest::totalOfNot);
        s.inEachWidth("18: NOT when q is not 0 or 1", SumTest::totalRefused);
        s.inEachWidth("19: bits 64 k .. 64 k + 63 of sum q", SumTest::words);
        s.inEachWidth("19: 0 when q is not 0 or 1", SumTest::wordRefused);
        s.inEachWidth("19: 0 when the sum has not so many bits", SumTest::wordBehindTheEnd);
        s.inEachWidth("19: 0 when k is negative", SumTest::wordOfNegativeIndex);
    }

    /** Two sums with bits in every word, and what they are. */
    private static TaperedQuire filled(Width w) {
        TaperedQuire t = w.object();
        t.collect(0, w.largest, w.largest, true);
        t.collect(0, 1, 1, false);
        t.collect(1, 1, 1, true);
        return t;
    }

    private static void filledDue(String call, Width w, TaperedQuire t) {
        w.sumDue(call, t, 0, ONE.subtract(Width.two(16 * w.n - 32)));
        w.sumDue(call, t, 1, ONE.negate());
    }

    /** Sum q NOT, the other one 1. */
    private static TaperedQuire withNot(Width w, int q) {
        TaperedQuire t = w.object();
        t.collect(q, w.not, w.one, false);
        t.collect(1 - q, w.one, w.one, false);
        return t;
    }

    private static void sixteenTimesN(Width w) {
        TaperedQuire t = w.object();
        t.collect(0, 1, 1, true);
        for (int k = 0; k < 12; k++) {
            w.due("word(0, " + k + ") of -1", t.word(0, k), k < w.n / 4 ? -1 : 0);
        }
        w.makeLargest(t, 1);
        for (int k = 0; k < 12; k++) {
            long want = k < w.n / 4 - 1 ? -1 : k == w.n / 4 - 1 ? Long.MAX_VALUE : 0;
            w.due("word(1, " + k + ") of the largest", t.word(1, k), want);
        }
    }

    private static void leastIntegerIsNot(Width w) {
        TaperedQuire t = withNot(w, 0);
        w.sumDue("NOT", t, 0, w.sumNot());
        w.due("total of NOT", t.total(0), w.not);
        w.makeLargest(t, 1);
        t.negate(1);
        t.collect(1, 1, 1, true);
        w.sumDue("a unit below the least number", t, 1, w.sumNot());
        w.due("its total", t.total(1), w.not);
    }

    private static void otherIntegersAreNumbers(Width w) {
        TaperedQuire t = w.object();
        w.makeLargest(t, 0);
        w.sumDue("the largest", t, 0, w.largestSum());
        w.due("total of the largest", t.total(0), w.largest);
        t.negate(0);
        w.sumDue("the least", t, 0, w.largestSum().negate());
        w.due("total of the least", t.total(0), -w.largest);
        // -2^(16 n - 2) has the first two bits of its word set, and nothing else.
        w.makeHalfOfTheRange(t, 0);
        t.negate(0);
        w.sumDue("half of NOT", t, 0, Width.two(16 * w.n - 2).negate());
        w.due("total of half of NOT", t.total(0), -w.largest);
        for (int scale = 8 - 4 * w.n; scale <= 4 * w.n - 8; scale++) {
            if (w.hasPower(scale)) {
                TaperedQuire b = w.object();
                w.addPower(b, 1, scale, false);
                w.sumDue("2^" + scale, b, 1, w.units(scale));
                w.due("total of 2^" + scale, b.total(1), w.power(scale));
            }
        }
    }

    private static void productsAreUnits(Width w) {
        int[] powers = {8 - 4 * w.n, 12 - 4 * w.n, 14 - 4 * w.n, -1, 0, 1, 4 * w.n - 14, 4 * w.n - 12, 4 * w.n - 8};
        for (int a : powers) {
            for (int b : powers) {
                TaperedQuire t = w.object();
                t.collect(0, w.power(a), w.power(b), false);
                w.sumDue("2^" + a + " * 2^" + b, t, 0, w.units(a + b));
            }
        }
    }

    /** Products with as many bits as there can be, at every place that they can have in the words. */
    private static void longProducts(Width w) {
        for (int a = 16 - 4 * w.n; a < 4 * w.n - 17; a++) {
            for (int b = a; b <= a + 1; b++) {
                TaperedQuire t = w.object();
                // Before the next power of two all bits of the fraction are set.
                int x = w.power(a + 1) - 1;
                int y = w.power(b + 1) - 1;
                t.collect(0, x, y, false);
                t.collect(1, x, -y, false);
                int f = w.fractionBits(a);
                int g = w.fractionBits(b);
                BigInteger want = allOnes(f + 1).multiply(allOnes(g + 1)).shiftLeft(a - f + b - g + w.placeOfOne);
                w.sumDue("before 2^" + (a + 1) + " * before 2^" + (b + 1), t, 0, want);
                w.sumDue("its negative", t, 1, want.negate());
            }
        }
    }

    private static BigInteger allOnes(int bits) {
        return Width.two(bits).subtract(ONE);
    }

    /** NOT has the first bit alone: with any other one it is a number, and stays one. */
    private static void oneBitMoreThanNot(Width w) {
        for (int place = 0; place <= 16 * w.n - 32; place++) {
            TaperedQuire t = w.object();
            w.makeLargest(t, 0);
            t.negate(0);
            w.addPower(t, 0, place - w.placeOfOne, false);
            t.collect(0, 1, 1, true);
            BigInteger want = w.sumNot().add(Width.two(place));
            w.sumDue("NOT's bit and bit " + place, t, 0, want);
            w.due("its total", t.total(0), -w.largest);
            t.merge(1);
            w.sumDue("merged into 0", t, 1, want);
        }
    }

    private static void collectWrapsUpwards(Width w) {
        TaperedQuire t = w.object();
        w.makeLargest(t, 0);
        // 16 units at once, so that it goes past NOT without being it.
        t.collect(0, 1, w.power(12 - 4 * w.n), false);
        w.sumDue("the largest and 16 units", t, 0, w.sumNot().add(FIFTEEN));
        w.due("its total", t.total(0), -w.largest);
        w.makeLargest(t, 1);
        t.collect(1, 1, -w.power(12 - 4 * w.n), true);
        w.sumDue("the largest less -16 units", t, 1, w.sumNot().add(FIFTEEN));
        w.makeLargest(t, 0);
        t.collect(0, w.largest, w.largest, false);
        w.sumDue("the largest and largest^2", t, 0, w.sumNot().add(Width.two(16 * w.n - 32)).subtract(ONE));
    }

    private static void collectWrapsDownwards(Width w) {
        TaperedQuire t = w.object();
        w.makeLargest(t, 0);
        t.negate(0);
        t.collect(0, 1, w.power(12 - 4 * w.n), true);
        w.sumDue("the least less 16 units", t, 0, w.largestSum().subtract(FIFTEEN).add(ONE));
        w.due("its total", t.total(0), w.largest);
        w.makeLargest(t, 1);
        t.negate(1);
        t.collect(1, 1, -w.power(12 - 4 * w.n), false);
        w.sumDue("the least and -16 units", t, 1, w.largestSum().subtract(FIFTEEN).add(ONE));
        w.makeLargest(t, 0);
        t.negate(0);
        t.collect(0, w.largest, w.largest, true);
        w.sumDue("the least less largest^2", t, 0, w.largestSum().subtract(Width.two(16 * w.n - 32)).add(TWO));
    }

    private static void mergeWraps(Width w) {
        for (int q = 0; q <= 1; q++) {
            TaperedQuire t = w.object();
            w.makeLargest(t, q);
            w.twice(t, q);
            w.sumDue("twice the largest", t, q, TWO.negate());
            w.sumDue("the other sum", t, 1 - q, w.largestSum());
            w.makeLargest(t, q);
            t.negate(q);
            w.twice(t, q);
            w.sumDue("twice the least", t, q, TWO);
            w.sumDue("the other sum", t, 1 - q, w.largestSum().negate());
        }
    }

    private static void collectMeetsNot(Width w) {
        for (int turn = 0; turn < 4; turn++) {
            TaperedQuire t = w.object();
            boolean down = turn % 2 == 1;
            boolean minus = turn / 2 == 1;
            w.makeLargest(t, 0);
            // Upwards it is one unit from the largest to NOT, downwards one from the least.
            if (down) {
                t.negate(0);
            }
            t.collect(0, 1, down == minus ? 1 : -1, minus);
            w.sumDue("a unit behind the end", t, 0, w.sumNot());
            w.due("its total", t.total(0), w.not);
        }
        TaperedQuire t = w.object();
        w.makeHalfOfTheRange(t, 1);
        t.merge(0);
        t.collect(1, w.largest, w.largest, true);
        t.merge(1);
        w.sumDue("largest^2 below the end", t, 1, Width.two(16 * w.n - 1).subtract(Width.two(16 * w.n - 32)));
        t.collect(1, w.largest, w.largest, false);
        w.sumDue("largest^2 more", t, 1, w.sumNot());
    }

    private static void mergeMeetsNot(Width w) {
        for (int q = 0; q <= 1; q++) {
            TaperedQuire t = w.object();
            w.makeHalfOfTheRange(t, q);
            w.twice(t, q);
            w.sumDue("2^(16 n - 2) twice", t, q, w.sumNot());
            w.due("its total", t.total(q), w.not);
            w.sumDue("the other sum", t, 1 - q, Width.two(16 * w.n - 2));
            w.makeHalfOfTheRange(t, q);
            t.negate(q);
            w.twice(t, q);
            w.sumDue("-2^(16 n - 2) twice", t, q, w.sumNot());
            w.makeLargest(t, q);
            t.negate(q);
            t.collect(1 - q, 1, 1, true);
            t.merge(q);
            w.sumDue("the least and -1", t, q, w.sumNot());
        }
    }

    private static void notFromThenOn(Width w) {
        for (int turn = 0; turn < 4; turn++) {
            TaperedQuire t = w.object();
            w.makeLargest(t, 0);
            t.collect(0, 1, 1, false);
            t.collect(1, w.one, w.one, false);
            if (turn == 0) {
                t.collect(0, 1, 1, true);
            } else if (turn == 1) {
                t.collect(0, 1, 1, false);
            } else if (turn == 2) {
                t.merge(0);
            } else {
                t.negate(0);
            }
            w.sumDue("NOT by wrapping, then call " + turn, t, 0, w.sumNot());
            w.due("its total", t.total(0), w.not);
            t.merge(1);
            w.sumDue("merged into the other", t, 1, w.sumNot());
            t.clear(0);
            t.collect(0, w.one, w.one, false);
            w.sumDue("cleared, it counts again", t, 0, w.units(0));
            w.sumDue("and the other does not", t, 1, w.sumNot());
        }
    }

    private static void twoSums(Width w) {
        for (int q = 0; q <= 1; q++) {
            TaperedQuire t = w.object();
            t.collect(q, w.one, w.one, false);
            w.sumDue("sum " + q, t, q, w.units(0));
            w.sumDue("not the other", t, 1 - q, ZERO);
            t.negate(q);
            w.due("total(" + q + ")", t.total(q), -w.one);
            w.due("total of the other", t.total(1 - q), 0);
            t.collect(1 - q, w.not, 0, false);
            w.due("total(" + q + ")", t.total(q), -w.one);
            w.due("total of the other", t.total(1 - q), w.not);
            t.clear(1 - q);
            w.due("total(" + q + ")", t.total(q), -w.one);
            w.due("total of the other", t.total(1 - q), 0);
        }
    }

    private static void cleared(Width w) {
        for (int q = 0; q <= 1; q++) {
            TaperedQuire t = filled(w);
            BigInteger other = q == 1 ? ONE.subtract(Width.two(16 * w.n - 32)) : ONE.negate();
            w.due("clear(" + q + ")", t.clear(q), true);
            w.sumDue("after it", t, q, ZERO);
            w.sumDue("the other sum", t, 1 - q, other);
            w.due("clear of 0", t.clear(q), true);
            w.sumDue("after it", t, q, ZERO);
            TaperedQuire b = withNot(w, q);
            w.due("clear of NOT", b.clear(q), true);
            w.sumDue("after it", b, q, ZERO);
            b.collect(q, 1, 1, false);
            w.sumDue("it counts again", b, q, ONE);
            w.sumDue("the other sum", b, 1 - q, w.units(0));
            w.makeLargest(b, q);
            w.due("clear of the largest", b.clear(q), true);
            w.sumDue("after it", b, q, ZERO);
        }
    }

    private static void clearRefused(Width w) {
        TaperedQuire t = filled(w);
        for (int q : Width.NO_SUMS) {
            w.due("clear(" + q + ")", t.clear(q), false);
            filledDue("after clear(" + q + ")", w, t);
        }
    }

    private static void collected(Width w) {
        for (int q = 0; q <= 1; q++) {
            TaperedQuire t = w.object();
            w.due("collect of a unit", t.collect(q, 1, 1, false), true);
            w.sumDue("a unit", t, q, ONE);
            w.due("collect of -1 unit", t.collect(q, 1, -1, false), true);
            w.sumDue("none", t, q, ZERO);
            w.due("collect of -1 unit", t.collect(q, -1, 1, false), true);
            w.sumDue("-1 unit, through all words", t, q, ONE.negate());
            w.due("collect of a unit", t.collect(q, -1, -1, false), true);
            w.sumDue("none, through all words", t, q, ZERO);
            w.due("collect of largest^2", t.collect(q, w.largest, w.largest, false), true);
            w.due("collect of a unit", t.collect(q, 1, 1, false), true);
            w.sumDue("the sum of both", t, q, Width.two(16 * w.n - 32).add(ONE));
            w.sumDue("the other sum", t, 1 - q, ZERO);
        }
    }

    private static void collectedMinus(Width w) {
        for (int q = 0; q <= 1; q++) {
            TaperedQuire t = w.object();
            w.due("collect of a unit, minus", t.collect(q, 1, 1, true), true);
            w.sumDue("-1 unit", t, q, ONE.negate());
            w.due("collect of -1 unit, minus", t.collect(q, 1, -1, true), true);
            w.sumDue("none", t, q, ZERO);
            w.due("collect of -1 unit, minus", t.collect(q, -1, 1, true), true);
            w.sumDue("a unit", t, q, ONE);
            w.due("collect of a unit, minus", t.collect(q, -1, -1, true), true);
            w.sumDue("none", t, q, ZERO);
            w.due("collect of largest^2, minus", t.collect(q, w.largest, w.largest, true), true);
            w.sumDue("-largest^2", t, q, Width.two(16 * w.n - 32).negate());
            w.sumDue("the other sum", t, 1 - q, ZERO);
        }
    }

    private static void collectedZero(Width w) {
        for (int p : w.edges()) {
            TaperedQuire t = filled(w);
            for (int q = 0; q <= 1; q++) {
                w.due("collect(0 * " + p + ")", t.collect(q, 0, p, false), true);
                w.due("collect(" + p + " * 0)", t.collect(q, p, 0, true), true);
            }
            filledDue("after them", w, t);
        }
    }

    private static void collectRefused(Width w) {
        for (int q : Width.NO_SUMS) {
            TaperedQuire t = filled(w);
            w.due("collect(" + q + ")", t.collect(q, w.one, w.one, false), false);
            filledDue("after collect(" + q + ")", w, t);
            w.due("collect(" + q + ") minus", t.collect(q, w.one, w.one, true), false);
            filledDue("after collect(" + q + ") minus", w, t);
            w.due("collect(" + q + ") of NOT", t.collect(q, w.not, w.one, false), false);
            filledDue("after collect(" + q + ") of NOT", w, t);
            w.due("collect(" + q + ") of NOT, minus", t.collect(q, w.one, w.not, true), false);
            filledDue("after collect(" + q + ") of NOT, minus", w, t);
        }
    }

    private static void collectedIntoNot(Width w) {
        for (int q = 0; q <= 1; q++) {
            TaperedQuire t = withNot(w, q);
            for (int p : w.edges()) {
                w.due("collect into NOT", t.collect(q, p, p, false), true);
                w.sumDue("it stays, plus " + p, t, q, w.sumNot());
                w.due("collect into NOT, minus", t.collect(q, p, w.one, true), true);
                w.due("its total, minus " + p, t.total(q), w.not);
            }
            t.collect(q, w.not, w.not, false);
            w.sumDue("NOT and NOT", t, q, w.sumNot());
            w.sumDue("the other sum", t, 1 - q, w.units(0));
        }
    }

    private static void collectedNot(Width w) {
        for (int p : w.edges()) {
            for (int turn = 0; turn < 8; turn++) {
                int q = turn % 2;
                boolean first = turn / 2 % 2 == 0;
                TaperedQuire t = w.object();
                t.collect(q, w.one, w.one, false);
                t.collect(1 - q, w.one, w.one, true);
                w.due("collect of NOT", t.collect(q, first ? w.not : p, first ? p : w.not, turn >= 4), true);
                w.sumDue("NOT with " + p, t, q, w.sumNot());
                w.sumDue("the other sum", t, 1 - q, w.units(0).negate());
            }
        }
        TaperedQuire t = w.object();
        w.due("collect of NOT * NOT", t.collect(0, w.not, w.not, true), true);
        w.sumDue("NOT with NOT", t, 0, w.sumNot());
    }

    private static void merged(Width w) {
        for (int q = 0; q <= 1; q++) {
            TaperedQuire t = w.object();
            t.collect(q, w.one, w.one, false);
            t.collect(1 - q, w.power(1), w.one, false);
            w.due("merge(" + q + ")", t.merge(q), true);
            w.sumDue("1 + 2", t, q, w.units(0).add(w.units(1)));
            w.sumDue("the other sum", t, 1 - q, w.units(1));
            TaperedQuire b = filled(w);
            w.due("merge(" + q + ")", b.merge(q), true);
            w.sumDue("1 - largest^2 - 1", b, q, Width.two(16 * w.n - 32).negate());
            TaperedQuire c = w.object();
            c.collect(q, 1, 1, true);
            c.collect(1 - q, 1, 1, false);
            w.due("merge(" + q + ")", c.merge(q), true);
            w.sumDue("-1 + 1, through all words", c, q, ZERO);
            w.due("merge(" + q + ") again", c.merge(q), true);
            w.sumDue("0 + 1", c, q, ONE);
            c.clear(1 - q);
            w.due("merge of 0", c.merge(q), true);
            w.sumDue("1 + 0", c, q, ONE);
        }
    }

    private static void mergeRefused(Width w) {
        TaperedQuire t = filled(w);
        for (int q : Width.NO_SUMS) {
            w.due("merge(" + q + ")", t.merge(q), false);
            filledDue("after merge(" + q + ")", w, t);
        }
    }

    private static void mergedNot(Width w) {
        for (int q = 0; q <= 1; q++) {
            TaperedQuire t = withNot(w, q);
            w.due("merge of 1 into NOT", t.merge(q), true);
            w.sumDue("it stays", t, q, w.sumNot());
            w.sumDue("the other sum", t, 1 - q, w.units(0));
            TaperedQuire b = withNot(w, 1 - q);
            w.due("merge of NOT into 1", b.merge(q), true);
            w.sumDue("it is NOT", b, q, w.sumNot());
            w.sumDue("the other sum", b, 1 - q, w.sumNot());
            w.due("merge of NOT into NOT", b.merge(q), true);
            w.sumDue("it is not 0", b, q, w.sumNot());
            w.due("its total", b.total(q), w.not);
            b.clear(1 - q);
            w.due("merge of 0 into NOT", b.merge(q), true);
            w.sumDue("it stays", b, q, w.sumNot());
        }
    }

    private static void negated(Width w) {
        for (int q = 0; q <= 1; q++) {
            TaperedQuire t = w.object();
            w.due("negate of 0", t.negate(q), true);
            w.sumDue("0", t, q, ZERO);
            t.collect(q, 1, 1, false);
            w.due("negate of a unit", t.negate(q), true);
            w.sumDue("-1 unit", t, q, ONE.negate());
            w.due("negate of it", t.negate(q), true);
            w.sumDue("a unit", t, q, ONE);
            w.sumDue("the other sum", t, 1 - q, ZERO);
            w.makeLargest(t, q);
            w.due("negate of the largest", t.negate(q), true);
            w.sumDue("the least", t, q, w.largestSum().negate());
            w.due("negate of the least", t.negate(q), true);
            w.sumDue("the largest", t, q, w.largestSum());
            // The carry stops in the midst, where the first bit is.
            for (int k = 0; k < w.n / 4 - 1; k++) {
                TaperedQuire b = w.object();
                w.addPower(b, q, 64 * k + 8 - w.placeOfOne, false);
                w.due("negate of 2^(64 k + 8) units", b.negate(q), true);
                w.sumDue("its negative", b, q, Width.two(64 * k + 8).negate());
            }
        }
    }

    private static void negatedNot(Width w) {
        for (int q = 0; q <= 1; q++) {
            TaperedQuire t = withNot(w, q);
            w.due("negate of NOT", t.negate(q), true);
            w.sumDue("it stays", t, q, w.sumNot());
            w.due("its total", t.total(q), w.not);
            w.sumDue("the other sum", t, 1 - q, w.units(0));
        }
    }

    private static void negateRefused(Width w) {
        TaperedQuire t = filled(w);
        for (int q : Width.NO_SUMS) {
            w.due("negate(" + q + ")", t.negate(q), false);
            filledDue("after negate(" + q + ")", w, t);
        }
    }

    private static void totalled(Width w) {
        TaperedQuire t = filled(w);
        w.due("total(0)", t.total(0), -w.largest);
        w.due("total(1)", t.total(1), -1);
        w.due("total(0) again", t.total(0), -w.largest);
        filledDue("which leaves the sums", w, t);
        TaperedQuire b = w.object();
        w.due("total of 0", b.total(1), 0);
        b.collect(1, w.one, w.one, false);
        w.due("total of 1", b.total(1), w.one);
        w.due("total of the other", b.total(0), 0);
    }

    private static void totalOfNot(Width w) {
        for (int q = 0; q <= 1; q++) {
            TaperedQuire t = withNot(w, q);
            w.due("total(" + q + ")", t.total(q), w.not);
            w.due("total of the other", t.total(1 - q), w.one);
            w.sumDue("which leaves the sum", t, q, w.sumNot());
        }
    }

    private static void totalRefused(Width w) {
        TaperedQuire t = filled(w);
        for (int q : Width.NO_SUMS) {
            w.due("total(" + q + ")", t.total(q), w.not);
        }
        filledDue("after them", w, t);
    }

    private static void words(Width w) {
        for (int place = 0; place <= 16 * w.n - 32; place++) {
            for (int q = 0; q <= 1; q++) {
                TaperedQuire t = w.object();
                w.addPower(t, q, place - w.placeOfOne, false);
                w.sumDue("bit " + place, t, q, Width.two(place));
                w.sumDue("the other sum", t, 1 - q, ZERO);
            }
        }
    }

    private static void wordRefused(Width w) {
        TaperedQuire t = filled(w);
        for (int q : Width.NO_SUMS) {
            for (int k = 0; k < w.n / 4; k++) {
                w.due("word(" + q + ", " + k + ")", t.word(q, k), 0);
            }
        }
        filledDue("after them", w, t);
    }

    private static void wordBehindTheEnd(Width w) {
        TaperedQuire t = filled(w);
        int end = w.n / 4;
        for (int k : new int[] {end, end + 1, 2 * end, 3 * end, 64, 128, 256, 1 << 26, 1 << 30, Integer.MAX_VALUE}) {
            w.due("word(0, " + k + ")", t.word(0, k), 0);
            w.due("word(1, " + k + ")", t.word(1, k), 0);
        }
        w.due("the last word there is", t.word(1, end - 1), -1);
    }

    private static void wordOfNegativeIndex(Width w) {
        TaperedQuire t = filled(w);
        for (int k : new int[] {-1, -2, -w.n / 4, -64, -256, -1 << 26, Integer.MIN_VALUE, Integer.MIN_VALUE + 1}) {
            w.due("word(0, " + k + ")", t.word(0, k), 0);
            w.due("word(1, " + k + ")", t.word(1, k), 0);
        }
    }
}
