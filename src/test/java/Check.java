import java.util.function.Supplier;

/** Counts the answers that are as due, and prints those that are not. */
final class Check {
    private static final int PRINTED_AT_MOST = 40;

    private final String name;
    private long passed = 0;
    private long failed = 0;

    Check(String name) {
        this.name = name;
    }

    void due(String call, long got, long want) {
        if (got == want) {
            passed++;
            return;
        }
        failed++;
        if (failed <= PRINTED_AT_MOST) {
            System.out.println(call + " answered " + got + ", due is " + want);
        }
    }

    void due(String call, boolean got, boolean want) {
        due(call, got ? 1 : 0, want ? 1 : 0);
    }

    /** Where what is due is a condition; the text is made only where it fails. */
    void holds(boolean asDue, Supplier<String> answered) {
        if (asDue) {
            passed++;
            return;
        }
        failed++;
        if (failed <= PRINTED_AT_MOST) {
            System.out.println(answered.get() + ", which is not what is due");
        }
    }

    long count() {
        return passed + failed;
    }

    long failures() {
        return failed;
    }

    void end() {
        System.out.println(name + ": " + passed + " passed, " + failed + " failed");
        if (failed != 0) {
            System.exit(1);
        }
    }
}
