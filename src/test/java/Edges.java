import java.util.Set;
import java.util.TreeSet;

/** Tests of boundary cases: each is of one sentence of a promise, and what is not as due is printed with both. */
final class Edges {
    /** By dial b: q is there at 3 and 4, r at 6; p is there at 2, 3 and 4. */
    static final String GARDEN = "hours 8; dial a 0 0; dial b 3 2; goer p a 2 3; goer q b 6 2; goer r b 1 1;";
    /** Both are there at hour 0 of every night. */
    static final String PAIR = "hours 8; dial a 0 0; goer p a 0 1; goer q a 0 1;";
    /** One is there at hour 0 of every night, the other at hour 1. */
    static final String APART = "hours 8; dial a 0 0; goer p a 0 1; goer q a 1 1;";

    private final Due due;
    private final Set<Integer> promises = new TreeSet<>();
    private String heading = "";
    private int tests = 0;

    Edges(String name) {
        due = new Due(name);
    }

    /** A test of a sentence of a promise, on a new object. */
    Run test(int promise, String sentence) {
        heading = "promise " + promise + " (" + sentence + "): ";
        promises.add(promise);
        tests++;
        return new Run(this);
    }

    /** The same, behind a text without a fault. */
    Run test(int promise, String sentence, String text) {
        return test(promise, sentence).reads(text);
    }

    /**
     * The same in a garden in which there is something of all that a call could change: it is night 2, b is OUT by 0 and
     * slips by 5, r goes by a; four things can be undone, two are told, slots 0 and 2 hold something, the latest text
     * had a fault, and there is another one on the tape.
     */
    Run full(int promise, String sentence) {
        Run run = test(promise, sentence, GARDEN + "dims = 50; seed 7;");
        return run.asks("hold(0) = true  turn(1, 1) = 4  follow(2, 0) = true  nights(2) = 2  hold(2) = true")
            .asks("slip(1, 5) = true  tell(0, 3, true) = 0  tell(2, 1, false) = 1")
            .reads("hours x;", 1, 6).feeds("hours 9; dial z 1 1;");
    }

    void is(String call, long got, long want) {
        due.is(heading + call, got, want);
    }

    void isTrue(String what, boolean holds) {
        due.isTrue(heading + what, holds);
    }

    /** Ends the tests, of which every promise from the first to the last must have had one. */
    void end(int first, int last) {
        for (int promise = first; promise <= last; promise++) {
            due.isTrue("promise " + promise + " has a test", promises.contains(promise));
        }
        System.out.println(tests + " boundary tests of promises " + first + " to " + last);
        due.end();
    }
}
