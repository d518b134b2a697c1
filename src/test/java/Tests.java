import java.util.function.Consumer;

/** Runs named tests and counts them; a test fails if one of its answers is not the one due. */
final class Tests {
    private int passed;
    private int failed;
    private int wrongAnswers;
    private long answers;
    /** The watch reads it from another thread. */
    private volatile String running = "";

    Tests(int passed, int failed) {
        this.passed = passed;
        this.failed = failed;
    }

    void run(String name, Consumer<Tests> body) {
        running = name;
        wrongAnswers = 0;
        try {
            body.accept(this);
        } catch (RuntimeException | Error thrown) {
            fail("threw " + thrown);
        }
        if (wrongAnswers == 0) {
            passed++;
        } else {
            failed++;
        }
    }

    void due(String call, long answered, long due) {
        answers++;
        if (answered != due) {
            fail(call + " answered " + answered + ", due is " + due);
        }
    }

    void due(String call, boolean answered, boolean due) {
        due(call, answered ? 1 : 0, due ? 1 : 0);
    }

    void fail(String what) {
        wrongAnswers++;
        if (wrongAnswers <= 10) {
            System.out.println(running + ": " + what);
        }
    }

    /** How many answers were looked at. */
    long answers() {
        return answers;
    }

    boolean allPassed() {
        return failed == 0;
    }

    /** The result if the test that is running never ends. */
    String stopped(String why) {
        return running + ": " + why + "\n" + passed + " passed, " + (failed + 1) + " failed";
    }

    String result() {
        return passed + " passed, " + failed + " failed";
    }
}
