import java.nio.file.Path;

/** Arguments: the source file of the class, and how many tests passed and failed before. */
public final class AllTests {
    private static final int MOST_MINUTES = 15;

    private AllTests() {
    }

    public static void main(String[] args) throws Exception {
        Tests tests = new Tests(Integer.parseInt(args[1]), Integer.parseInt(args[2]));
        startWatch(tests);
        ExampleTests.runAll(tests);
        PieceTests.runAll(tests);
        SeamTests.runAll(tests);
        SettingTests.runAll(tests);
        PartTests.runAll(tests);
        PackingTests.runAll(tests);
        OrderTests.runAll(tests);
        SlotTests.runAll(tests);
        RangeTests.runAll(tests);
        CheckOrderTests.runAll(tests);
        SeamEdgeTests.runAll(tests);
        PartEdgeTests.runAll(tests);
        PackingEdgeTests.runAll(tests);
        OrderEdgeTests.runAll(tests);
        SlotEdgeTests.runAll(tests);
        AgreementTests.runAll(tests);
        AnyArgumentTests.runAll(tests);
        FaceTests.runAll(tests);
        LanguageTests.runAll(tests, Path.of(args[0]));
        ReadmeTests.runAll(tests, Path.of("README.md"));
        System.out.println(tests.result());
        if (!tests.allPassed()) {
            System.exit(1);
        }
    }

    /** Rule 7 of LANGUAGE.md: a call that never ends is a failed test, not a run that hangs. */
    private static void startWatch(Tests tests) {
        Thread watch = new Thread(() -> {
            try {
                Thread.sleep(MOST_MINUTES * 60_000L);
            } catch (InterruptedException e) {
                return;
            }
            System.out.println(tests.stopped("not at its end after " + MOST_MINUTES + " minutes"));
            Runtime.getRuntime().halt(1);
        });
        watch.setDaemon(true);
        watch.start();
    }
}
