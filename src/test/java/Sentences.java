import java.util.ArrayList;
import java.util.List;

/** The sentences of the document that a test looks at, each in all three widths. */
final class Sentences {
    /** What one sentence asks in one width. */
    interface Look {
        void at(Width w);
    }

    private final Check check;
    // Of the wrong answers only the first are printed: the names of all that broke are kept.
    private final List<String> broken = new ArrayList<>();

    Sentences(String name) {
        check = new Check(name);
    }

    void inEachWidth(String sentence, Look look) {
        for (int width = 0; width <= 2; width++) {
            Width w = new Width(width, sentence, check);
            long looked = check.count();
            long failed = check.failures();
            look.at(w);
            // A look that checks nothing would pass for ever.
            check.due(sentence + ": looked at in " + w.n + " bits", check.count() > looked, true);
            if (check.failures() > failed) {
                broken.add(sentence + " (" + w.n + " bits)");
            }
        }
    }

    void end() {
        for (String sentence : broken) {
            System.out.println("broken: " + sentence);
        }
        check.end();
    }
}
