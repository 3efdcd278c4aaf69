/** Runs of 512 mixed calls on one object, each answer and all words of both sums against {@link Reference}. */
final class RunsTest {
    private static final Check CHECK = new Check("RunsTest");
    private static final int CALLS = 512;
    /** Of these so many look at the words of both sums, and around them, at the end. */
    private static final int LOOKS = 4 * 11;

    private final TaperedQuire t;
    private final Reference r;
    private final Operands some;
    private int last = 0;

    private RunsTest(int width, long seed) {
        t = new TaperedQuire(width);
        r = new Reference(width);
        some = new Operands(r.bits(), seed);
    }

    public static void main(String[] args) {
        for (int width = 0; width <= 2; width++) {
            for (long seed = 1; seed <= 60; seed++) {
                new RunsTest(width, seed * 7919 + width).run();
            }
        }
        CHECK.end();
    }

    private void run() {
        // Every third run is of sums alone, and seldom clears them, so that they grow and wrap.
        boolean sumsAlone = some.below(3) == 0;
        for (int i = 0; i < CALLS - LOOKS; i++) {
            if (sumsAlone || some.below(2) == 0) {
                sumCall();
            } else {
                numberCall();
            }
        }
        for (int q = -1; q <= 2; q++) {
            for (int k = -1; k <= 9; k++) {
                CHECK.due("word(" + q + ", " + k + ")", t.word(q, k), r.word(q, k));
            }
        }
    }

    private int operand() {
        return some.below(5) == 0 ? last : some.pattern();
    }

    /** NOT ends what a sum can show, so the sums meet it seldom. */
    private int sumOperand() {
        int x = operand();
        boolean not = r.compare(x, 1 << (r.bits() - 1)) == 0;
        return not && some.below(20) != 0 ? 1 : x;
    }

    private int which() {
        return some.below(16) == 0 ? some.below(5) - 2 : some.below(2);
    }

    private void answer(String call, int got, int want) {
        CHECK.due(r.bits() + " bits: " + call, got, want);
        last = want;
    }

    private void numberCall() {
        int x = operand();
        int y = operand();
        int z = operand();
        String two = "(" + x + ", " + y + ")";
        switch (some.below(12)) {
            case 0 -> answer("add" + two, t.add(x, y), r.add(x, y));
            case 1 -> answer("subtract" + two, t.subtract(x, y), r.subtract(x, y));
            case 2 -> answer("multiply" + two, t.multiply(x, y), r.multiply(x, y));
            case 3 -> answer("divide" + two, t.divide(x, y), r.divide(x, y));
            case 4 -> answer("root(" + x + ")", t.root(x), r.root(x));
            case 5 -> answer("fused(" + x + ", " + y + ", " + z + ")", t.fused(x, y, z), r.fused(x, y, z));
            case 6 -> answer("whole(" + x + ")", t.whole(x), r.whole(x));
            case 7 -> answer("next(" + x + ")", t.next(x), r.next(x));
            case 8 -> {
                long v = some.wide();
                answer("fromLong(" + v + ")", t.fromLong(v), r.fromLong(v));
            }
            case 9 -> CHECK.due("toLong(" + x + ")", t.toLong(x), r.toLong(x));
            case 10 -> {
                int width = some.below(6) - 2;
                answer("convert(" + x + ", " + width + ")", t.convert(x, width), r.convert(x, width));
            }
            default -> CHECK.due("compare" + two, t.compare(x, y), r.compare(x, y));
        }
    }

    private void sumCall() {
        int q = which();
        switch (some.below(12)) {
            case 0 -> {
                if (some.below(8) == 0) {
                    CHECK.due("clear(" + q + ")", t.clear(q), r.clear(q));
                }
            }
            case 1, 2, 3 -> CHECK.due("merge(" + q + ")", t.merge(q), r.merge(q));
            case 4 -> CHECK.due("negate(" + q + ")", t.negate(q), r.negate(q));
            case 5, 6 -> answer("total(" + q + ")", t.total(q), r.total(q));
            case 7, 8 -> {
                int k = some.below(11) - 1;
                CHECK.due("word(" + q + ", " + k + ")", t.word(q, k), r.word(q, k));
            }
            default -> {
                int x = sumOperand();
                int y = sumOperand();
                boolean minus = some.below(2) == 0;
                String call = "collect(" + q + ", " + x + ", " + y + ", " + minus + ")";
                CHECK.due(call, t.collect(q, x, y, minus), r.collect(q, x, y, minus));
            }
        }
    }
}
