/** Compares answers with those that are due, and ends a test's run. */
final class Check {
    private int wrong = 0;
    private int checked = 0;
    private int checkedBefore = 0;
    private String sentence = "";

    /** Names the sentence of the document that the answers after this are held against. */
    void sentence(String words) {
        closeSentence();
        sentence = words;
    }

    void due(String call, long got, long want) {
        checked++;
        if (got != want) {
            fault(call + " answered " + got + ", due is " + want);
        }
    }

    void due(String call, boolean got, boolean want) {
        due(call, got ? 1L : 0L, want ? 1L : 0L);
    }

    void same(String what, String got, String want) {
        checked++;
        if (!got.equals(want)) {
            fault(what + ":\n  got " + got + "\n  due " + want);
        }
    }

    void end() {
        closeSentence();
        System.out.println(checked + " answers, " + wrong + " not as due");
        if (wrong != 0 || checked == 0) {
            System.exit(1);
        }
    }

    private void fault(String text) {
        wrong++;
        System.out.println(sentence.isEmpty() ? text : "[" + sentence + "] " + text);
    }

    // A sentence that nothing was held against has no test.
    private void closeSentence() {
        if (!sentence.isEmpty() && checked == checkedBefore) {
            fault("no answer was looked at");
        }
        checkedBefore = checked;
    }
}
