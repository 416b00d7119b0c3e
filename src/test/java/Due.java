/** Compares answers with those that are due, and ends a test with exit code 1 if one was wrong. */
final class Due {
    private final String name;
    private String sentence = "";
    private int sentences;
    private int callsOfSentence;
    private int calls;
    private int wrong;

    Due(String name) {
        this.name = name;
    }

    /** The answers from here on are due by these words of the document. */
    void by(String part, String words) {
        endSentence();
        sentence = part + ", \"" + words + "\": ";
        sentences++;
    }

    void is(String call, long got, long want) {
        calls++;
        callsOfSentence++;
        if (got != want) {
            tellWrong(call + " answered " + got + ", due is " + want);
        }
    }

    void is(String call, boolean got, boolean want) {
        is(call, got ? 1 : 0, want ? 1 : 0);
    }

    int wrong() {
        return wrong;
    }

    void end() {
        endSentence();
        System.out.println(name + ": " + sentences + " sentences, " + calls + " answers, " + wrong + " not as due");
        if (wrong != 0 || calls == 0) {
            System.exit(1);
        }
    }

    /** A sentence that no answer was looked at for has no test. */
    private void endSentence() {
        if (sentences > 0 && callsOfSentence == 0) {
            tellWrong("no answer was looked at");
        }
        callsOfSentence = 0;
    }

    private void tellWrong(String what) {
        wrong++;
        System.out.println(sentence + what);
    }
}
