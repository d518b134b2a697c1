import java.nio.file.Path;

/** Arguments: the source file of the class, and how many tests passed and failed before. */
public final class AllTests {
    private AllTests() {
    }

    public static void main(String[] args) throws Exception {
        Tests tests = new Tests(Integer.parseInt(args[1]), Integer.parseInt(args[2]));
        ExampleTests.runAll(tests);
        PieceTests.runAll(tests);
        SeamTests.runAll(tests);
        SettingTests.runAll(tests);
        PartTests.runAll(tests);
        PackingTests.runAll(tests);
        OrderTests.runAll(tests);
        SlotTests.runAll(tests);
        RangeTests.runAll(tests);
        CheckOrderTests.runAll(tests);
        SeamEdgeTests.runAll(tests);
        PartEdgeTests.runAll(tests);
        PackingEdgeTests.runAll(tests);
        OrderEdgeTests.runAll(tests);
        SlotEdgeTests.runAll(tests);
        AgreementTests.runAll(tests);
        AnyArgumentTests.runAll(tests);
        FaceTests.runAll(tests);
        LanguageTests.runAll(tests, Path.of(args[0]));
        System.out.println(tests.result());
        if (!tests.allPassed()) {
            System.exit(1);
        }
    }
}
