/** Counts and prints the calls of a test whose answer is not the one that is due. */
final class Due {
    private final String test;
    private int asked = 0;
    private int wrong = 0;

    Due(String test) {
        this.test = test;
    }

    void is(String call, long got, long want) {
        asked++;
        if (got != want) {
            wrong++;
            System.out.println(test + ": " + call + " answered " + got + ", due is " + want);
        }
    }

    void is(String call, boolean got, boolean want) {
        is(call, got ? 1 : 0, want ? 1 : 0);
    }

    void isTrue(String what, boolean holds) {
        is(what, holds, true);
    }

    /** Ends the test: with exit code 1 if an answer was wrong, or none was asked for. */
    void end() {
        System.out.println(test + ": " + asked + " answers, " + wrong + " not as due");
        if (wrong != 0 || asked == 0) {
            System.exit(1);
        }
    }
}
