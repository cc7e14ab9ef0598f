/** Counts and prints the answers that are not the ones that are due, under the sentence that asks for them. */
final class Due {
    private String sentence = "";
    private int sentences = 0;
    private int checkedInSentence = 0;
    private int checked = 0;
    private int wrong = 0;

    /** A call that throws is a wrong answer too, and is told under its sentence. */
    Due() {
        Thread.setDefaultUncaughtExceptionHandler((thread, thrown) -> {
            fail("a call threw " + thrown);
            System.exit(1);
        });
    }

    /** What is looked at from here on tests these words of the document, and nothing looked at is a failure. */
    void sentence(String words) {
        endSentence();
        sentence = words;
        sentences++;
    }

    void same(String call, long got, long want) {
        checked++;
        checkedInSentence++;
        if (got != want) {
            fail(call + " answered " + got + ", due is " + want);
        }
    }

    void same(String call, boolean got, boolean want) {
        same(call, got ? 1 : 0, want ? 1 : 0);
    }

    /** The desk has these sets in a sense, in this order, and none after them. */
    void sets(String name, ArgumentDesk desk, int sense, int... want) {
        same(name + ": count(" + sense + ")", desk.count(sense), want.length);
        for (int k = 0; k < want.length; k++) {
            same(name + ": set(" + sense + ", " + k + ")", desk.set(sense, k), want[k]);
        }
        same(name + ": set(" + sense + ", end)", desk.set(sense, want.length), ArgumentDesk.NONE);
    }

    void end() {
        endSentence();
        String told = sentences == 0 ? "" : sentences + " sentences tested, ";
        System.out.println(told + checked + " answers looked at, " + wrong + " not as due");
        if (wrong != 0 || checked == 0) {
            System.exit(1);
        }
    }

    private void endSentence() {
        if (sentences > 0 && checkedInSentence == 0) {
            fail("nothing was looked at");
        }
        checkedInSentence = 0;
    }

    private void fail(String what) {
        wrong++;
        if (wrong <= 50) {
            System.out.println(sentence.isEmpty() ? what : "[" + sentence + "] " + what);
        }
    }
}
