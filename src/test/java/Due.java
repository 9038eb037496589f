/** Compares answers with those that are due, and ends the test's run. */
final class Due {
    interface Call {
        void run();
    }

    private int wrong = 0;

    void is(String call, long got, long want) {
        if (got != want) {
            report(call + " answered " + got + ", due is " + want);
        }
    }

    void is(String call, boolean got, boolean want) {
        if (got != want) {
            report(call + " answered " + got + ", due is " + want);
        }
    }

    void refuses(String call, Class<? extends RuntimeException> want, Call made) {
        Class<?> got = null;
        try {
            made.run();
        } catch (RuntimeException e) {
            got = e.getClass();
        }
        if (got != want) {
            report(call + " threw " + got + ", due is " + want);
        }
    }

    void report(String text) {
        wrong++;
        System.out.println(text);
    }

    /** Ends with exit code 1 if anything was wrong. */
    void end() {
        if (wrong > 0) {
            System.exit(1);
        }
    }
}
