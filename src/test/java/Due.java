/** Compares answers with those that are due, and ends the test's run. */
final class Due {
    interface Call {
        void run();
    }

    private int wrong = 0;
    private String sentence = "";

    /** Runs the test of one sentence of the document; what is wrong is told under that sentence. */
    void about(String words, Call test) {
        sentence = "\"" + words + "\": ";
        try {
            test.run();
        } catch (RuntimeException e) {
            report("the test was ended by " + e);
        }
        sentence = "";
    }

    void is(String call, long got, long want) {
        if (got != want) {
            report(call + " answered " + got + ", due is " + want);
        }
    }

    void is(String call, boolean got, boolean want) {
        if (got != want) {
            report(call + " answered " + got + ", due is " + want);
        }
    }

    void is(String call, String got, String want) {
        if (!got.equals(want)) {
            report(call + " is\n  " + got + "\ndue is\n  " + want);
        }
    }

    /** The counts 0, 1, 2 .. of an object, as many as are wanted. */
    void counted(String when, TagMemory m, int... want) {
        for (int what = 0; what < want.length; what++) {
            is(when + ": count(" + what + ")", m.count(what), want[what]);
        }
    }

    void refuses(String call, Class<? extends RuntimeException> want, Call made) {
        Class<?> got = null;
        try {
            made.run();
        } catch (RuntimeException e) {
            got = e.getClass();
        }
        if (got != want) {
            report(call + " threw " + got + ", due is " + want);
        }
    }

    void report(String text) {
        wrong++;
        System.out.println(sentence + text);
    }

    /** Ends with exit code 1 if anything was wrong. */
    void end() {
        if (wrong > 0) {
            System.exit(1);
        }
    }
}
