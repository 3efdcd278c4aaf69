/** The sentences of the document that a test looks at, each in all three widths. */
final class Sentences {
    /** What one sentence asks in one width. */
    interface Look {
        void at(Width w);
    }

    private final Check check;

    Sentences(String name) {
        check = new Check(name);
    }

    void inEachWidth(String sentence, Look look) {
        for (int width = 0; width <= 2; width++) {
            long before = check.count();
            look.at(new Width(width, sentence, check));
            // A look that checks nothing would pass for ever.
            check.due(sentence + ": nothing looked at in width " + width, check.count() > before, true);
        }
    }

    void end() {
        check.end();
    }
}
