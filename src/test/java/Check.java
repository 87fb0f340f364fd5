/** Counts and prints the answers that are not the ones that are due. */
final class Check {

    interface Call {
        long answer();
    }

    private final String test;
    private int asked;
    private int wrong;

    Check(String test) {
        this.test = test;
    }

    void due(String call, long got, long want) {
        asked++;
        if (got != want) {
            tell(call + " answered " + got + ", due is " + want);
        }
    }

    void due(String call, boolean got, boolean want) {
        due(call, got ? 1 : 0, want ? 1 : 0);
    }

    void due(String call, String got, String want) {
        asked++;
        if (!got.equals(want)) {
            tell(call + " answered " + got + ", due is " + want);
        }
    }

    void isDown(String call, Call made) {
        due(call, outcome(made), "throws.IllegalStateException");
    }

    void isNone(String call, Call made) {
        due(call, outcome(made), "throws.IndexOutOfBoundsException");
    }

    /** The answer, or the exception's name behind "throws.". */
    static String outcome(Call made) {
        try {
            return Long.toString(made.answer());
        } catch (RuntimeException e) {
            return "throws." + e.getClass().getSimpleName();
        }
    }

    /** The words of the document that name a boundary case, and the test of that case. */
    void sentence(String words, Runnable cases) {
        sentence(words, "", cases);
    }

    /**
     * Words that name several cases have a test for each of them. They are printed if the test
     * finds a wrong answer, and a test that asks nothing is wrong, too.
     */
    void sentence(String words, String which, Runnable cases) {
        int askedBefore = asked;
        int wrongBefore = wrong;
        try {
            cases.run();
        } catch (RuntimeException | AssertionError e) {
            tell("a call threw " + e);
        }
        if (asked == askedBefore) {
            tell("nothing was asked");
        }
        if (wrong != wrongBefore) {
            System.out.println(test + ": this does not hold: \"" + words + "\" " + which);
        }
    }

    /** What a refused call must leave as it was: all that can be seen of a house behind a run. */
    void leavesAll(String call, View.Run before, View.Run refused) {
        due(call + " leaves all", View.all(before.then(refused)), View.all(before));
    }

    /** What a refused request must leave: all but the draft and the reply. */
    void leavesHouse(String request, View.Run before, View.Run refused) {
        due(request + " leaves the house", View.house(before.then(refused)), View.house(before));
    }

    int wrong() {
        return wrong;
    }

    void end() {
        System.out.println(test + ": " + asked + " answers, " + wrong + " not as due");
        if (wrong != 0 || asked == 0) {
            System.exit(1);
        }
    }

    private void tell(String what) {
        wrong++;
        System.out.println(test + ": " + what);
    }
}
