import java.math.BigInteger;

/** "An object is used for at most 512 calls": the last of them answers as the first. */
final class CallsTest {
    private static final int CALLS = 512;

    /** A call, answered as a long. */
    interface Call {
        long on(TaperedQuire t);
    }

    public static void main(String[] args) {
        Sentences s = new Sentences("CallsTest");
        s.inEachWidth("at most 512 calls, all of one method", CallsTest::sameCalls);
        s.inEachWidth("at most 512 calls, the last one of each method", CallsTest::lastCall);
        s.inEachWidth("at most 512 calls, the last but one of each that changes a sum", CallsTest::lastChange);
        s.inEachWidth("at most 512 calls, all of them counted in a sum", CallsTest::fullSum);
        s.inEachWidth("at most 512 calls, all of them refused", CallsTest::refusedCalls);
        s.inEachWidth("no call on numbers leaves anything behind for the next", CallsTest::nothingLeftBehind);
        s.end();
    }

    private static long bit(boolean answer) {
        return answer ? 1 : 0;
    }

    private static void sameCalls(Width w) {
        int two = w.power(1);
        same(w, "bits()", t -> t.bits(), w.n);
        same(w, "add(1, 1)", t -> t.add(w.one, w.one), two);
        same(w, "subtract(2, 1)", t -> t.subtract(two, w.one), w.one);
        same(w, "multiply(2, -1)", t -> t.multiply(two, -w.one), -two);
        same(w, "divide(2, 0)", t -> t.divide(two, 0), w.not);
        same(w, "divide(2, 2)", t -> t.divide(two, two), w.one);
        same(w, "root(4)", t -> t.root(w.power(2)), two);
        same(w, "fused(1, 2, -1)", t -> t.fused(w.one, two, -w.one), w.one);
        same(w, "whole(3/2)", t -> t.whole(w.pattern(0, "1")), two);
        same(w, "next(largest)", t -> t.next(w.largest), w.not);
        same(w, "fromLong(-2)", t -> t.fromLong(-2), -two);
        same(w, "toLong(-2)", t -> t.toLong(-two), -2);
        same(w, "convert(1, 2)", t -> t.convert(w.one, 2), 1 << 30);
        same(w, "clear(0)", t -> bit(t.clear(0)), 1);
        same(w, "collect(0, largest, largest)", t -> bit(t.collect(0, w.largest, w.largest, false)), 1);
        same(w, "merge(0)", t -> bit(t.merge(0)), 1);
        same(w, "negate(1)", t -> bit(t.negate(1)), 1);
        same(w, "total(1)", t -> t.total(1), 0);
        same(w, "word(1, 0)", t -> t.word(1, 0), 0);
        same(w, "compare(1, 2)", t -> t.compare(w.one, two), -1);
    }

    private static void same(Width w, String name, Call call, long want) {
        TaperedQuire t = w.object();
        for (int i = 1; i <= CALLS; i++) {
            w.due(name + " as call " + i, call.on(t), want);
        }
    }

    /** After 511 calls of seven kinds sum 0 is 73 units and sum 1 is -73. */
    private static TaperedQuire after511(Width w) {
        TaperedQuire t = w.object();
        before(w, t, CALLS - 1);
        return t;
    }

    private static void before(Width w, TaperedQuire t, int calls) {
        for (int i = 0; i < calls; i++) {
            switch (i % 7) {
                case 0 -> t.collect(0, 1, 1, false);
                case 1 -> t.collect(1, w.one, w.one, true);
                case 2 -> t.divide(w.one, w.pattern(1, "1"));
                case 3 -> t.fused(w.largest, -w.largest, w.largest);
                case 4 -> t.root(w.power(1));
                case 5 -> t.total(i % 2);
                default -> t.add(w.not, i);
            }
        }
    }

    private static void lastCall(Width w) {
        int two = w.power(1);
        w.due("bits()", after511(w).bits(), w.n);
        w.due("add(1, 1)", after511(w).add(w.one, w.one), two);
        w.due("subtract(2, 1)", after511(w).subtract(two, w.one), w.one);
        w.due("multiply(2, -1)", after511(w).multiply(two, -w.one), -two);
        w.due("divide(2, 0)", after511(w).divide(two, 0), w.not);
        w.due("root(4)", after511(w).root(w.power(2)), two);
        w.due("fused(1, 2, -1)", after511(w).fused(w.one, two, -w.one), w.one);
        w.due("whole(3/2)", after511(w).whole(w.pattern(0, "1")), two);
        w.due("next(NOT)", after511(w).next(w.not), -w.largest);
        w.due("fromLong(-2^63)", after511(w).fromLong(Long.MIN_VALUE), w.not);
        w.due("toLong(-2)", after511(w).toLong(-two), -2);
        w.due("convert(1, 2)", after511(w).convert(w.one, 2), 1 << 30);
        w.due("clear(0)", after511(w).clear(0), true);
        w.due("collect(1, 1, 1)", after511(w).collect(1, w.one, w.one, false), true);
        w.due("merge(1)", after511(w).merge(1), true);
        w.due("negate(0)", after511(w).negate(0), true);
        w.due("total(0)", after511(w).total(0), 1);
        // 73 lies above the middle of 64 and 80, the nearest ones of 8 bits.
        int total = w.n == 8 ? w.pattern(6, "01") : w.pattern(6, "001001");
        w.due("total(1)", after511(w).total(1), -total);
        w.due("word(0, 0)", after511(w).word(0, 0), 73);
        w.due("word(1, n / 4 - 1)", after511(w).word(1, w.n / 4 - 1), -1);
        w.due("compare(2, 1)", after511(w).compare(two, w.one), 1);
    }

    private static void lastChange(Width w) {
        wordAfter(w, t -> bit(t.clear(0)), 0);
        wordAfter(w, t -> bit(t.collect(0, 1, 1, false)), 74);
        wordAfter(w, t -> bit(t.collect(0, 1, 1, true)), 72);
        wordAfter(w, t -> bit(t.negate(0)), -73);
        wordAfter(w, t -> 1 - bit(t.negate(2)), 73);
        TaperedQuire t = w.object();
        before(w, t, CALLS - 2);
        w.due("merge(1) as call 511", t.merge(1), true);
        w.due("word(1, 0) as call 512", t.word(1, 0),
            w.units(0).multiply(BigInteger.valueOf(-73)).add(BigInteger.valueOf(73)).longValue());
    }

    private static void wordAfter(Width w, Call change, long want) {
        TaperedQuire t = w.object();
        before(w, t, CALLS - 2);
        w.due("a change as call 511", change.on(t), 1);
        w.due("word(0, 0) as call 512", t.word(0, 0), want);
    }

    private static void fullSum(Width w) {
        for (int k = 0; k < w.n / 4; k++) {
            TaperedQuire t = w.object();
            for (int i = 1; i < CALLS; i++) {
                t.collect(1, w.largest, w.largest, true);
            }
            BigInteger want = Width.two(16 * w.n - 32).multiply(BigInteger.valueOf(1 - CALLS));
            w.due("word(1, " + k + ") of 511 products", t.word(1, k), want.shiftRight(64 * k).longValue());
        }
        TaperedQuire t = w.object();
        for (int i = 1; i < CALLS; i++) {
            t.collect(0, w.one, w.one, false);
        }
        // 511 is 1.11111111 * 2^8 in base two; 8 bits have one of these behind the point.
        w.due("total of 511 times 1", t.total(0), w.n == 8 ? w.power(9) : w.pattern(8, "11111111"));
    }

    private static void refusedCalls(Width w) {
        TaperedQuire t = w.object();
        t.collect(0, w.one, w.one, false);
        for (int i = 2; i < CALLS; i++) {
            int q = Width.NO_SUMS[i % Width.NO_SUMS.length];
            boolean answer = switch (i / Width.NO_SUMS.length % 4) {
                case 0 -> t.clear(q);
                case 1 -> t.collect(q, w.not, w.one, false);
                case 2 -> t.merge(q);
                default -> t.negate(q);
            };
            w.due("a refused call on sum " + q, answer, false);
        }
        w.due("total(0) as call 512", t.total(0), w.one);
    }

    /** Calls with every edge in every place, so that what is kept of one would be seen in the next. */
    private static void nothingLeftBehind(Width w) {
        int ofAllBits = w.power(1) - 1;
        for (int edge : new int[] {w.not, 0, 1, -1, w.largest, -w.largest, ofAllBits}) {
            Call[] first = {t -> t.add(edge, w.one), t -> t.add(w.one, edge), t -> t.subtract(w.one, edge),
                t -> t.multiply(w.one, edge), t -> t.divide(edge, w.one), t -> t.divide(w.one, edge), t -> t.root(edge),
                t -> t.fused(edge, w.one, w.one), t -> t.fused(w.one, edge, w.one), t -> t.fused(w.one, w.one, edge),
                t -> t.whole(edge), t -> t.next(edge), t -> t.toLong(edge), t -> t.convert(edge, 0), t -> t.total(2),
                t -> bit(t.collect(2, edge, w.one, false)), t -> t.compare(edge, w.one), t -> t.fromLong(Long.MIN_VALUE)};
            for (int i = 0; i < first.length; i++) {
                callsAfter(w, "call " + i + " of " + edge, first[i]);
            }
        }
    }

    private static void callsAfter(Width w, String before, Call first) {
        int two = w.power(1);
        int half = w.pattern(0, "1");
        after(w, before + ", add(1, 1)", first, t -> t.add(w.one, w.one), two);
        after(w, before + ", subtract(2, 1)", first, t -> t.subtract(two, w.one), w.one);
        after(w, before + ", multiply(2, 1)", first, t -> t.multiply(two, w.one), two);
        after(w, before + ", divide(2, 2)", first, t -> t.divide(two, two), w.one);
        after(w, before + ", root(4)", first, t -> t.root(w.power(2)), two);
        after(w, before + ", fused(1, 1, 1)", first, t -> t.fused(w.one, w.one, w.one), two);
        after(w, before + ", whole(3/2)", first, t -> t.whole(half), two);
        after(w, before + ", add(0, 0)", first, t -> t.add(0, 0), 0);
        after(w, before + ", multiply(0, 1)", first, t -> t.multiply(0, w.one), 0);
        after(w, before + ", divide(0, 1)", first, t -> t.divide(0, w.one), 0);
        after(w, before + ", root(0)", first, t -> t.root(0), 0);
        after(w, before + ", whole(0)", first, t -> t.whole(0), 0);
        after(w, before + ", toLong(0)", first, t -> t.toLong(0), 0);
        after(w, before + ", convert(0, 0)", first, t -> t.convert(0, 0), 0);
        after(w, before + ", next(0)", first, t -> t.next(0), 1);
        after(w, before + ", toLong(3/2)", first, t -> t.toLong(half), 2);
        after(w, before + ", toLong of many bits", first, t -> t.toLong(two - 1), 2);
        int scale = Math.min(4 * w.n - 8, 62);
        after(w, before + ", toLong(2^" + scale + ")", first, t -> t.toLong(w.power(scale)), 1L << scale);
        after(w, before + ", fromLong(2)", first, t -> t.fromLong(2), two);
        after(w, before + ", convert(1, 2)", first, t -> t.convert(w.one, 2), 1 << 30);
        after(w, before + ", compare(1, 2)", first, t -> t.compare(w.one, two), -1);
        after(w, before + ", total(0)", first, t -> t.total(0), 0);
        after(w, before + ", total(1)", first, t -> t.total(1), 0);
        after(w, before + ", collect and total", first, t -> t.collect(0, two, w.one, false) ? t.total(0) : 0, two);
        after(w, before + ", merge and total", first, t -> t.merge(0) ? t.total(0) : 1, 0);
    }

    private static void after(Width w, String name, Call first, Call second, long want) {
        TaperedQuire t = w.object();
        first.on(t);
        w.due(name, second.on(t), want);
    }
}
