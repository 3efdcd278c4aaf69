/**
 * Each promise by its number, with answers worked out by hand.
 *
 * <p>In 8 bits 64 is 1, 72 is 2, 76 is 3, 80 is 4, 56 is 1/2, 1 is 2^-24 and 127 is 2^24; between 1
 * and 2 a step is 1/8. In 16 bits 16384 is 1 and a step behind it 2^-11; in 32 bits 1073741824 is 1
 * and a step behind it 2^-27.
 */
final class PromiseTest {
    private static final Check CHECK = new Check("PromiseTest");
    private static final int NOT8 = -128;
    private static final int NOT16 = -32768;
    private static final int NOT32 = Integer.MIN_VALUE;
    private static final int ONE16 = 16384;
    private static final int ONE32 = 1073741824;
    private static final int[] NO_SUMS = {-1, 2, 3, 256, Integer.MAX_VALUE, Integer.MIN_VALUE};

    public static void main(String[] args) {
        promise1();
        promise2();
        promise3();
        promise4();
        promise5();
        promise6();
        promise7();
        promise8();
        promise9();
        promise10();
        promise11();
        promise12();
        promise13();
        promise14();
        promise15();
        promise15Not();
        promise16();
        promise16Wraps();
        promise17();
        promise18();
        promise19();
        promise20();
        onlyTheLowestBits();
        numbersLeaveTheSums();
        exampleOfTheReadme();
        CHECK.end();
    }

    private static TaperedQuire of8() {
        return new TaperedQuire(0);
    }

    private static TaperedQuire of16() {
        return new TaperedQuire(1);
    }

    private static TaperedQuire of32() {
        return new TaperedQuire(2);
    }

    private static void due(String call, long got, long want) {
        CHECK.due(call, got, want);
    }

    private static void due(String call, boolean got, boolean want) {
        CHECK.due(call, got, want);
    }

    private static void promise1() {
        int[][] widths = {{0, 8}, {1, 16}, {2, 32}, {3, 32}, {-1, 32}, {8, 32}, {16, 32}, {256, 32},
            {Integer.MAX_VALUE, 32}, {Integer.MIN_VALUE, 32}};
        for (int[] w : widths) {
            TaperedQuire t = new TaperedQuire(w[0]);
            due("1: bits of width " + w[0], t.bits(), w[1]);
            for (int q = 0; q <= 1; q++) {
                due("1: total of a new object", t.total(q), 0);
                for (int k = 0; k < 8; k++) {
                    due("1: word of a new object", t.word(q, k), 0);
                }
            }
        }
    }

    private static void promise2() {
        due("2: bits", of8().bits(), 8);
        due("2: bits", of16().bits(), 16);
        due("2: bits", of32().bits(), 32);
        TaperedQuire t = of16();
        t.convert(1, 0);
        due("2: bits after convert", t.bits(), 16);
    }

    private static void promise3() {
        TaperedQuire t = of8();
        due("3: 1 + 1", t.add(64, 64), 72);
        due("3: 1 + 2", t.add(64, 72), 76);
        due("3: -1 + -2", t.add(-64, -72), -76);
        due("3: 1 + 1/16, a tie, even below", t.add(64, 32), 64);
        due("3: 9/8 + 1/16, a tie, even above", t.add(65, 32), 66);
        due("3: -9/8 - 1/16", t.add(-65, -32), -66);
        due("3: x + 0", t.add(77, 0), 77);
        due("3: 0 + x", t.add(0, -77), -77);
        due("3: 0 + 0", t.add(0, 0), 0);
        due("3: x + -x", t.add(127, -127), 0);
        due("3: above the largest", t.add(127, 127), 127);
        due("3: below the least", t.add(-127, -127), -127);
        due("3: the least twice", t.add(1, 1), 1);
        due("3: NOT + x", t.add(NOT8, 64), NOT8);
        due("3: x + NOT", t.add(64, NOT8), NOT8);
        due("3: NOT + NOT", t.add(NOT8, NOT8), NOT8);
        TaperedQuire s = of16();
        due("3: 1 + 2^-12, a tie", s.add(ONE16, 2048), ONE16);
        due("3: 1 + 2^-11 + 2^-12, a tie", s.add(ONE16 + 1, 2048), ONE16 + 2);
        due("3: above the tie", s.add(ONE16, 2049), ONE16 + 1);
        due("3: NOT", s.add(1, NOT16), NOT16);
        TaperedQuire w = of32();
        due("3: 1 + 2^-28, a tie", w.add(ONE32, 8388608), ONE32);
        due("3: 1 + 2^-27 + 2^-28, a tie", w.add(ONE32 + 1, 8388608), ONE32 + 2);
        due("3: above the tie", w.add(ONE32, 8388609), ONE32 + 1);
        due("3: NOT", w.add(NOT32, 1), NOT32);
    }

    private static void promise4() {
        TaperedQuire t = of8();
        due("4: 2 - 1", t.subtract(72, 64), 64);
        due("4: 1 - 2", t.subtract(64, 72), -64);
        due("4: 1 - 1", t.subtract(64, 64), 0);
        due("4: 1 - -2", t.subtract(64, -72), 76);
        due("4: 0 - largest", t.subtract(0, 127), -127);
        due("4: beyond the largest", t.subtract(-127, 127), -127);
        due("4: least - twice the least and more", t.subtract(1, 2), -2);
        due("4: NOT - NOT", t.subtract(NOT8, NOT8), NOT8);
        due("4: 0 - NOT", t.subtract(0, NOT8), NOT8);
        due("4: NOT - 0", t.subtract(NOT8, 0), NOT8);
        TaperedQuire s = of16();
        due("4: 2^-11", s.subtract(ONE16 + 1, ONE16), 2560);
        due("4: NOT", s.subtract(5, NOT16), NOT16);
        TaperedQuire w = of32();
        due("4: 1 - least", w.subtract(ONE32, 1), ONE32);
        due("4: NOT", w.subtract(1, NOT32), NOT32);
        due("4: NOT", w.subtract(NOT32, 1), NOT32);
    }

    private static void promise5() {
        TaperedQuire t = of8();
        due("5: 3 * 3", t.multiply(76, 76), 89);
        due("5: -3 * 3", t.multiply(-76, 76), -89);
        due("5: -3 * -3", t.multiply(-76, -76), 89);
        due("5: 3/2 * 7/8, a tie, even below", t.multiply(68, 62), 66);
        due("5: 3/2 * 9/8, a tie, even above", t.multiply(68, 65), 70);
        due("5: least * least", t.multiply(1, 1), 1);
        due("5: least * -least", t.multiply(1, -1), -1);
        due("5: largest * largest", t.multiply(127, 127), 127);
        due("5: largest * -largest", t.multiply(127, -127), -127);
        due("5: largest * least", t.multiply(127, 1), 64);
        due("5: 0 * x", t.multiply(0, 127), 0);
        due("5: x * 0", t.multiply(-127, 0), 0);
        due("5: 0 * NOT", t.multiply(0, NOT8), NOT8);
        due("5: NOT * 0", t.multiply(NOT8, 0), NOT8);
        due("5: (1 + 2^-11)^2", of16().multiply(ONE16 + 1, ONE16 + 1), ONE16 + 2);
        due("5: (1 + 2^-27)^2", of32().multiply(ONE32 + 1, ONE32 + 1), ONE32 + 2);
        due("5: NOT", of32().multiply(NOT32, 3), NOT32);
    }

    private static void promise6() {
        TaperedQuire t = of8();
        due("6: 1 / 2", t.divide(64, 72), 56);
        due("6: -1 / 2", t.divide(-64, 72), -56);
        due("6: -1 / -2", t.divide(-64, -72), 56);
        due("6: 1 / 3", t.divide(64, 76), 51);
        due("6: 9 / 3", t.divide(89, 76), 76);
        due("6: 0 / x", t.divide(0, 64), 0);
        due("6: 0 / -x", t.divide(0, -64), 0);
        due("6: x / 0", t.divide(64, 0), NOT8);
        due("6: 0 / 0", t.divide(0, 0), NOT8);
        due("6: x / a 0 in the lowest bits", t.divide(64, 256), NOT8);
        due("6: NOT / x", t.divide(NOT8, 64), NOT8);
        due("6: x / NOT", t.divide(64, NOT8), NOT8);
        due("6: 0 / NOT", t.divide(0, NOT8), NOT8);
        due("6: largest / least", t.divide(127, 1), 127);
        due("6: least / largest", t.divide(1, 127), 1);
        due("6: -least / largest", t.divide(-1, 127), -1);
        due("6: least / least", t.divide(1, 1), 64);
        due("6: 1 / 2", of16().divide(ONE16, ONE16 + 2048), ONE16 - 2048);
        due("6: 1 / 2", of32().divide(ONE32, 1207959552), 939524096);
        due("6: x / 0", of16().divide(1, 0), NOT16);
        due("6: x / 0", of32().divide(1, 0), NOT32);
    }

    private static void promise7() {
        TaperedQuire t = of8();
        due("7: root of 4", t.root(80), 72);
        due("7: root of 9", t.root(89), 76);
        due("7: root of 2", t.root(72), 67);
        due("7: root of 6", t.root(84), 74);
        due("7: root of 1", t.root(64), 64);
        due("7: root of 0", t.root(0), 0);
        due("7: root of the largest, 2^12", t.root(127), 120);
        due("7: root of the least, 2^-12", t.root(1), 8);
        due("7: root of -1", t.root(-64), NOT8);
        due("7: root of -least", t.root(-1), NOT8);
        due("7: root of a negative one in the lowest bits", t.root(192), NOT8);
        due("7: root of NOT", t.root(NOT8), NOT8);
        due("7: root of the least, 2^-28", of16().root(1), 128);
        due("7: root of 2", of32().root(1207959552), 1129336627);
        due("7: root of NOT", of16().root(NOT16), NOT16);
        due("7: root of -1", of32().root(-ONE32), NOT32);
    }

    private static void promise8() {
        TaperedQuire t = of8();
        due("8: 2 * 2 - 4", t.fused(72, 72, -80), 0);
        due("8: 3 * 3 + 1", t.fused(76, 76, 64), 90);
        due("8: -3 * 3 - 1", t.fused(-76, 76, -64), -90);
        due("8: 9/8 * 9/8 - 5/4, which two roundings would make 0", t.fused(65, 65, -66), 24);
        due("8: 21/16, a tie", t.fused(68, 62, 0), 66);
        due("8: 21/16 and the least", t.fused(68, 62, 1), 67);
        due("8: 21/16 less the least", t.fused(68, 62, -1), 66);
        due("8: 27/16, a tie", t.fused(68, 65, 0), 70);
        due("8: 27/16 less the least", t.fused(68, 65, -1), 69);
        due("8: largest^2 - largest", t.fused(127, 127, -127), 127);
        due("8: least^2 - least", t.fused(1, 1, -1), -1);
        due("8: least^2", t.fused(1, 1, 0), 1);
        due("8: -least^2", t.fused(1, -1, 0), -1);
        due("8: least^2 - 1", t.fused(1, 1, -64), -64);
        due("8: 0 * x + z", t.fused(0, 76, 77), 77);
        due("8: 0 * 0 + 0", t.fused(0, 0, 0), 0);
        due("8: NOT first", t.fused(NOT8, 0, 0), NOT8);
        due("8: NOT second", t.fused(0, NOT8, 0), NOT8);
        due("8: NOT third", t.fused(0, 0, NOT8), NOT8);
        due("8: 2^-54", of32().fused(ONE32 + 1, ONE32 + 1, -ONE32 - 2), 98304);
        due("8: NOT", of32().fused(1, 1, NOT32), NOT32);
        due("8: NOT", of16().fused(1, NOT16, 1), NOT16);
    }

    private static void promise9() {
        TaperedQuire t = of8();
        int[][] pairs = {{68, 72}, {66, 64}, {67, 64}, {69, 72}, {74, 72}, {78, 80}, {56, 0}, {57, 64}, {1, 0},
            {0, 0}, {127, 127}, {89, 89}, {72, 72}};
        for (int[] p : pairs) {
            due("9: whole(" + p[0] + ")", t.whole(p[0]), p[1]);
            due("9: whole(" + -p[0] + ")", t.whole(-p[0]), -p[1]);
        }
        due("9: whole(NOT)", t.whole(NOT8), NOT8);
        due("9: whole with higher bits", t.whole(68 + 512), 72);
        due("9: 3/2 in 16 bits", of16().whole(ONE16 + 1024), ONE16 + 2048);
        due("9: 2^-27 below 3/2", of32().whole(ONE32 + 67108864 - 1), ONE32);
        due("9: NOT", of16().whole(NOT16), NOT16);
        due("9: NOT", of32().whole(NOT32), NOT32);
    }

    private static void promise10() {
        TaperedQuire t = of8();
        due("10: behind 0", t.next(0), 1);
        due("10: behind -1", t.next(-1), 0);
        due("10: behind the largest", t.next(127), NOT8);
        due("10: behind NOT", t.next(NOT8), -127);
        due("10: behind 255", t.next(255), 0);
        due("10: behind 383", t.next(383), NOT8);
        due("10: behind 5", t.next(5), 6);
        due("10: behind the largest", of16().next(32767), NOT16);
        due("10: behind NOT", of16().next(NOT16), NOT16 + 1);
        due("10: behind the largest", of32().next(Integer.MAX_VALUE), NOT32);
        due("10: behind NOT", of32().next(NOT32), NOT32 + 1);
    }

    private static void promise11() {
        TaperedQuire t = of8();
        long[][] pairs = {{0, 0}, {1, 64}, {2, 72}, {3, 76}, {9, 89}, {17, 96}, {18, 96}, {19, 97}, {100, 106},
            {131072, 124}, {131073, 125}, {524287, 125}, {524288, 126}, {1048576, 126}, {4194304, 126},
            {4194305, 127}, {16777216, 127}, {16777217, 127}, {Long.MAX_VALUE, 127}};
        for (long[] p : pairs) {
            due("11: fromLong(" + p[0] + ")", t.fromLong(p[0]), p[1]);
            due("11: fromLong(" + -p[0] + ")", t.fromLong(-p[0]), -p[1]);
        }
        due("11: -2^63", t.fromLong(Long.MIN_VALUE), NOT8);
        due("11: -2^63", of16().fromLong(Long.MIN_VALUE), NOT16);
        due("11: -2^63", of32().fromLong(Long.MIN_VALUE), NOT32);
        due("11: -2^63 + 1", of32().fromLong(Long.MIN_VALUE + 1), -2147463168);
        due("11: 2^63 - 1", of16().fromLong(Long.MAX_VALUE), 32767);
        due("11: 123456789", of32().fromLong(123456789L), 2136661609);
    }

    private static void promise12() {
        TaperedQuire t = of8();
        int[][] pairs = {{0, 0}, {1, 0}, {56, 0}, {57, 1}, {64, 1}, {66, 1}, {68, 2}, {74, 2}, {78, 4}, {127, 16777216}};
        for (int[] p : pairs) {
            due("12: toLong(" + p[0] + ")", t.toLong(p[0]), p[1]);
            due("12: toLong(" + -p[0] + ")", t.toLong(-p[0]), -p[1]);
        }
        due("12: NOT", t.toLong(NOT8), Long.MIN_VALUE);
        due("12: NOT", of16().toLong(NOT16), Long.MIN_VALUE);
        due("12: the largest, 2^56", of16().toLong(32767), 1L << 56);
        TaperedQuire w = of32();
        due("12: NOT", w.toLong(NOT32), Long.MIN_VALUE);
        due("12: 2^62", w.toLong(2147459072), 1L << 62);
        due("12: -2^62", w.toLong(-2147459072), -1L << 62);
        due("12: the last that is a long", w.toLong(2147463167), 9222246136947933184L);
        due("12: its negative", w.toLong(-2147463167), -9222246136947933184L);
        due("12: 2^63", w.toLong(2147463168), Long.MIN_VALUE);
        due("12: -2^63", w.toLong(-2147463168), Long.MIN_VALUE);
        due("12: the largest", w.toLong(Integer.MAX_VALUE), Long.MIN_VALUE);
        due("12: the least of all", w.toLong(-Integer.MAX_VALUE), Long.MIN_VALUE);
    }

    private static void promise13() {
        TaperedQuire t = of8();
        due("13: 2 to 16 bits", t.convert(72, 1), 18432);
        due("13: 2 to its own bits", t.convert(72, 0), 72);
        due("13: largest to 32 bits", t.convert(127, 2), 2130706432);
        due("13: largest to another width", t.convert(127, 3), 2130706432);
        due("13: largest to a negative width", t.convert(127, -1), 2130706432);
        due("13: with higher bits", t.convert(72 + 256, 1), 18432);
        due("13: NOT to 8", t.convert(NOT8, 0), NOT8);
        due("13: NOT to 16", t.convert(NOT8, 1), NOT16);
        due("13: NOT to 32", t.convert(128, 2), NOT32);
        due("13: 0", t.convert(0, 2), 0);
        TaperedQuire s = of16();
        due("13: 17/16, a tie, even below", s.convert(16512, 0), 64);
        due("13: above it", s.convert(16513, 0), 65);
        due("13: 19/16, a tie, even above", s.convert(16768, 0), 66);
        due("13: below it", s.convert(16767, 0), 65);
        due("13: 2^-22, a tie", s.convert(384, 0), 2);
        due("13: below it", s.convert(383, 0), 1);
        due("13: least", s.convert(1, 0), 1);
        due("13: -least", s.convert(-1, 0), -1);
        due("13: largest", s.convert(32767, 0), 127);
        due("13: -largest", s.convert(-32767, 0), -127);
        due("13: NOT", s.convert(NOT16, 0), NOT8);
        due("13: NOT", of32().convert(NOT32, 7), NOT32);
        due("13: -1", of32().convert(-ONE32, 1), -ONE16);
    }

    private static void wordsDue(String what, TaperedQuire t, int q, long... words) {
        for (int k = 0; k < words.length; k++) {
            due(what + ", word(" + q + ", " + k + ")", t.word(q, k), words[k]);
        }
    }

    private static void promise14() {
        TaperedQuire t = of8();
        t.collect(0, 64, 64, false);
        t.collect(1, 72, 64, false);
        due("14: clear(0)", t.clear(0), true);
        due("14: sum 0 after it", t.total(0), 0);
        due("14: sum 1 after it", t.total(1), 72);
        t.collect(0, 64, 64, true);
        for (int q : NO_SUMS) {
            due("14: clear(" + q + ")", t.clear(q), false);
        }
        due("14: sum 0 is untouched", t.total(0), -64);
        due("14: sum 1 is untouched", t.total(1), 72);
        due("14: clear(1)", t.clear(1), true);
        wordsDue("14: cleared", t, 1, 0, 0);
        due("14: sum 0 after it", t.total(0), -64);
        t.collect(0, NOT8, 0, false);
        due("14: clear of NOT", t.clear(0), true);
        wordsDue("14: NOT cleared", t, 0, 0, 0);
        t.collect(0, 64, 64, false);
        due("14: it counts again", t.total(0), 64);
    }

    private static void promise15() {
        TaperedQuire t = of8();
        due("15: collect", t.collect(0, 1, 1, false), true);
        wordsDue("15: a unit", t, 0, 1, 0);
        t.collect(0, 1, 1, true);
        t.collect(0, 1, 1, true);
        wordsDue("15: minus a unit", t, 0, -1, -1);
        t.collect(0, -1, 1, true);
        wordsDue("15: none", t, 0, 0, 0);
        t.collect(0, -1, 1, false);
        wordsDue("15: minus a unit", t, 0, -1, -1);
        t.collect(0, -1, -1, false);
        t.collect(0, 64, 64, false);
        wordsDue("15: 1", t, 0, 1L << 48, 0);
        t.collect(0, 0, 127, false);
        t.collect(0, 127, 0, true);
        wordsDue("15: a product of 0", t, 0, 1L << 48, 0);
        wordsDue("15: the other sum", t, 1, 0, 0);
        for (int q : NO_SUMS) {
            due("15: collect(" + q + ")", t.collect(q, 64, 64, false), false);
            due("15: collect(" + q + ") of NOT", t.collect(q, NOT8, 64, false), false);
        }
        wordsDue("15: untouched", t, 0, 1L << 48, 0);
        wordsDue("15: untouched", t, 1, 0, 0);
        TaperedQuire s = of16();
        s.collect(1, ONE16, ONE16, false);
        wordsDue("15: 1", s, 1, 0, 1L << 48, 0, 0);
        s.collect(1, 32767, -32767, false);
        wordsDue("15: 1 - largest^2", s, 1, 0, 1L << 48, 0, -1L << 32);
        TaperedQuire w = of32();
        w.collect(0, ONE32, ONE32, false);
        wordsDue("15: 1", w, 0, 0, 0, 0, 1L << 48, 0, 0, 0, 0);
        w.collect(0, 1, 1, true);
        wordsDue("15: 1 less a unit", w, 0, -1, -1, -1, (1L << 48) - 1, 0, 0, 0, 0);
        w.clear(0);
        w.collect(0, Integer.MAX_VALUE, Integer.MAX_VALUE, false);
        wordsDue("15: largest^2", w, 0, 0, 0, 0, 0, 0, 0, 0, 1L << 32);
    }

    private static void promise15Not() {
        for (int turn = 0; turn < 4; turn++) {
            TaperedQuire t = of8();
            t.collect(1, 64, 64, false);
            due("15: collect of NOT", t.collect(1, turn % 2 == 0 ? NOT8 : 0, turn % 2 == 0 ? 0 : 128, turn > 1), true);
            wordsDue("15: NOT", t, 1, 0, Long.MIN_VALUE);
            due("15: collect into NOT", t.collect(1, 64, 64, turn > 1), true);
            wordsDue("15: NOT stays", t, 1, 0, Long.MIN_VALUE);
            due("15: the other sum", t.total(0), 0);
        }
        TaperedQuire t = of8();
        fillToTheBrim(t, 0);
        wordsDue("15: 2^127 - 2^96", t, 0, 0, Long.MAX_VALUE - 0xFFFFFFFFL);
        t.collect(0, 127, 127, false);
        wordsDue("15: it wraps to NOT", t, 0, 0, Long.MIN_VALUE);
        due("15: NOT", t.total(0), NOT8);
        t.collect(0, 127, 127, true);
        wordsDue("15: and is NOT from then on", t, 0, 0, Long.MIN_VALUE);
        t.clear(0);
        fillToTheBrim(t, 0);
        t.collect(0, 1, 1, false);
        t.collect(0, 127, 127, false);
        wordsDue("15: it wraps beyond NOT", t, 0, 1, Long.MIN_VALUE);
        due("15: a large negative sum", t.total(0), -127);
        t.collect(0, 1, 1, true);
        due("15: downwards to NOT", t.total(0), NOT8);
    }

    /** Makes sum q of 8 bits 2^127 - 2^96, through 31 doublings; clears the other one. */
    private static void fillToTheBrim(TaperedQuire t, int q) {
        for (int i = 0; i < 31; i++) {
            t.clear(1 - q);
            t.merge(1 - q);
            t.merge(q);
            t.collect(q, 127, 127, false);
        }
        t.clear(1 - q);
    }

    private static void promise16() {
        TaperedQuire t = of8();
        t.collect(0, 64, 64, false);
        t.collect(1, 72, 64, false);
        due("16: merge(0)", t.merge(0), true);
        due("16: 1 + 2", t.total(0), 76);
        due("16: the other sum", t.total(1), 72);
        due("16: merge(1)", t.merge(1), true);
        due("16: 2 + 3", t.total(1), 82);
        due("16: the other sum", t.total(0), 76);
        for (int q : NO_SUMS) {
            due("16: merge(" + q + ")", t.merge(q), false);
        }
        due("16: untouched", t.total(0), 76);
        due("16: untouched", t.total(1), 82);
        t.collect(1, NOT8, 1, false);
        due("16: merge(0) of NOT", t.merge(0), true);
        wordsDue("16: NOT", t, 0, 0, Long.MIN_VALUE);
        due("16: the other sum stays NOT", t.total(1), NOT8);
        t.clear(1);
        due("16: merge(0) into NOT", t.merge(0), true);
        due("16: it stays NOT", t.total(0), NOT8);
        due("16: the other sum is 0", t.total(1), 0);
        t.collect(1, 1, NOT8, false);
        t.merge(0);
        due("16: NOT and NOT", t.total(0), NOT8);
        TaperedQuire w = of32();
        w.collect(0, 1, 1, true);
        w.collect(1, 1, 1, false);
        w.merge(0);
        wordsDue("16: a carry through all words", w, 0, 0, 0, 0, 0, 0, 0, 0, 0);
        wordsDue("16: the other sum", w, 1, 1, 0, 0, 0, 0, 0, 0, 0);
    }

    private static void promise16Wraps() {
        TaperedQuire t = of8();
        fillToTheBrim(t, 1);
        t.collect(0, 127, 127, false);
        t.collect(0, 1, 1, false);
        t.merge(1);
        wordsDue("16: it wraps", t, 1, 1, Long.MIN_VALUE);
        due("16: a large negative sum", t.total(1), -127);
        t.clear(0);
        t.collect(0, 1, 1, true);
        t.merge(1);
        wordsDue("16: it becomes NOT", t, 1, 0, Long.MIN_VALUE);
        t.merge(1);
        due("16: and stays so", t.total(1), NOT8);
    }

    private static void promise17() {
        TaperedQuire t = of8();
        t.collect(0, 1, 1, false);
        t.collect(1, 72, 64, true);
        due("17: negate(0)", t.negate(0), true);
        wordsDue("17: minus a unit", t, 0, -1, -1);
        due("17: the other sum", t.total(1), -72);
        due("17: negate(1)", t.negate(1), true);
        due("17: 2", t.total(1), 72);
        due("17: twice", t.negate(0), true);
        wordsDue("17: a unit", t, 0, 1, 0);
        for (int q : NO_SUMS) {
            due("17: negate(" + q + ")", t.negate(q), false);
        }
        wordsDue("17: untouched", t, 0, 1, 0);
        due("17: untouched", t.total(1), 72);
        t.clear(0);
        due("17: negate of 0", t.negate(0), true);
        wordsDue("17: 0", t, 0, 0, 0);
        t.collect(0, NOT8, 1, false);
        due("17: negate of NOT", t.negate(0), true);
        wordsDue("17: NOT stays", t, 0, 0, Long.MIN_VALUE);
        TaperedQuire w = of32();
        w.collect(0, ONE32, ONE32, false);
        w.negate(0);
        wordsDue("17: -1", w, 0, 0, 0, 0, -1L << 48, -1, -1, -1, -1);
    }

    private static void promise18() {
        TaperedQuire t = of8();
        due("18: 0", t.total(0), 0);
        t.collect(0, 64, 64, false);
        t.collect(0, 32, 64, false);
        due("18: 17/16, a tie", t.total(0), 64);
        t.collect(0, 1, 1, false);
        due("18: a unit above", t.total(0), 65);
        due("18: the same again, as the sum is not rounded", t.total(0), 65);
        t.collect(0, 1, 1, true);
        t.collect(0, 1, 1, true);
        due("18: a unit below", t.total(0), 64);
        t.negate(0);
        due("18: its negative", t.total(0), -64);
        t.clear(0);
        t.collect(0, 1, 1, false);
        due("18: below the least", t.total(0), 1);
        t.negate(0);
        due("18: its negative", t.total(0), -1);
        t.clear(0);
        t.collect(0, 127, 127, false);
        due("18: above the largest", t.total(0), 127);
        t.negate(0);
        due("18: its negative", t.total(0), -127);
        t.collect(1, NOT8, 0, false);
        due("18: NOT", t.total(1), NOT8);
        for (int q : NO_SUMS) {
            due("18: total(" + q + ")", t.total(q), NOT8);
            due("18: total(" + q + ")", of16().total(q), NOT16);
            due("18: total(" + q + ")", of32().total(q), NOT32);
        }
        TaperedQuire w = of32();
        w.collect(0, ONE32 + 1, ONE32, false);
        w.collect(0, 8388608, ONE32, false);
        due("18: a tie, even above", w.total(0), ONE32 + 2);
        w.collect(0, 1, 1, true);
        due("18: a unit of 2^-240 below it", w.total(0), ONE32 + 1);
        w.clear(0);
        w.collect(0, ONE32, ONE32, false);
        w.collect(0, 8388608, ONE32, false);
        due("18: a tie, even below", w.total(0), ONE32);
        w.collect(0, 1, 1, false);
        due("18: a unit of 2^-240 above it", w.total(0), ONE32 + 1);
    }

    private static void promise19() {
        int[] words = {2, 4, 8};
        for (int width = 0; width <= 2; width++) {
            TaperedQuire t = new TaperedQuire(width);
            t.collect(0, 1, 1, true);
            t.collect(1, 1, 1, true);
            for (int k = 0; k < 10; k++) {
                due("19: word(0, " + k + ")", t.word(0, k), k < words[width] ? -1 : 0);
                due("19: word(1, " + k + ")", t.word(1, k), k < words[width] ? -1 : 0);
            }
            for (int k : new int[] {-1, -2, Integer.MIN_VALUE, Integer.MAX_VALUE, 64, 1 << 26, 1 << 30}) {
                due("19: word(0, " + k + ")", t.word(0, k), 0);
            }
            for (int q : NO_SUMS) {
                due("19: word(" + q + ", 0)", t.word(q, 0), 0);
                due("19: word(" + q + ", 1)", t.word(q, 1), 0);
            }
            t.collect(0, 0, 1 << (t.bits() - 1), false);
            for (int k = 0; k < words[width]; k++) {
                due("19: word of NOT", t.word(0, k), k < words[width] - 1 ? 0 : Long.MIN_VALUE);
            }
        }
    }

    private static void promise20() {
        TaperedQuire t = of8();
        due("20: the same", t.compare(5, 5), 0);
        due("20: the same pattern", t.compare(200, -56), 0);
        due("20: less", t.compare(-1, 1), -1);
        due("20: more", t.compare(1, -1), 1);
        due("20: 127 against 128, which is NOT", t.compare(127, 128), 1);
        due("20: NOT is less", t.compare(NOT8, -127), -1);
        due("20: NOT and NOT", t.compare(NOT8, 128), 0);
        due("20: far apart", t.compare(-100, 100), -1);
        due("20: the same pattern", of16().compare(65535, -1), 0);
        due("20: less", of16().compare(NOT16, 32767), -1);
        due("20: the ends", of32().compare(Integer.MAX_VALUE, NOT32), 1);
        due("20: the ends", of32().compare(NOT32, Integer.MAX_VALUE), -1);
    }

    /** Of an int that is handed in, the lowest n bits are the pattern: in every method. */
    private static void onlyTheLowestBits() {
        int[] higher = {0, 256, -256, 1 << 30, Integer.MIN_VALUE};
        TaperedQuire t = of8();
        for (int h : higher) {
            due("add", t.add(64 ^ h, 72 ^ h), 76);
            due("subtract", t.subtract(72 ^ h, 64 ^ h), 64);
            due("multiply", t.multiply(76 ^ h, 76 ^ h), 89);
            due("divide", t.divide(64 ^ h, 76 ^ h), 51);
            due("root", t.root(80 ^ h), 72);
            due("fused", t.fused(76 ^ h, 76 ^ h, 64 ^ h), 90);
            due("whole", t.whole(66 ^ h), 64);
            due("whole", t.whole(72 ^ h), 72);
            due("next", t.next(127 ^ h), NOT8);
            due("toLong", t.toLong(68 ^ h), 2);
            due("convert", t.convert(72 ^ h, 1), 18432);
            due("compare", t.compare(64 ^ h, 65), -1);
            t.clear(0);
            t.collect(0, 72 ^ h, 72 ^ h, false);
            due("collect", t.total(0), 80);
            due("NOT", t.add(1, 128 ^ h), NOT8);
        }
    }

    private static void numbersLeaveTheSums() {
        TaperedQuire t = of16();
        t.collect(0, 3, 5, false);
        t.collect(1, ONE16, 7, true);
        long[] before = new long[8];
        for (int i = 0; i < 8; i++) {
            before[i] = t.word(i / 4, i % 4);
        }
        t.add(1, 2);
        t.subtract(1, 2);
        t.multiply(3, NOT16);
        t.divide(1, 0);
        t.root(77);
        t.fused(9, 9, 9);
        t.whole(5);
        t.next(5);
        t.fromLong(5);
        t.toLong(5);
        t.convert(5, 0);
        t.total(0);
        t.total(1);
        t.compare(1, 2);
        for (int i = 0; i < 8; i++) {
            due("a sum's word after calls on numbers", t.word(i / 4, i % 4), before[i]);
        }
    }

    private static void exampleOfTheReadme() {
        TaperedQuire t = of16();
        due("fromLong", t.fromLong(10), 23040);
        due("fromLong", t.fromLong(3), 19456);
        due("10 / 3, which 3413/1024 is nearest to", t.divide(23040, 19456), 19797);
        due("its product with 3", t.multiply(19797, 19456), 23040);
        due("collect", t.collect(0, 19797, 19456, false), true);
        due("collect", t.collect(0, 23040, ONE16, true), true);
        due("-1/1024", t.total(0), -3072);
        due("-1/1024", t.fused(19797, 19456, -23040), -3072);
    }
}
