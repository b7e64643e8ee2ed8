/** Runs every test of the project; ends with exit code 1 if one fails. */
public final class AllTests {
    private AllTests() {
    }

    public static void main(String[] args) throws Exception {
        Checks checks = new Checks();
        new DeltaTests(checks).run();
        new WaysTests(checks).run();
        new SoundingsTests(checks).run();
        new ChanceTests(checks).run();
        new SheetTests(checks).run();
        new ModelTests(checks).run();
        new LanguageTests(checks).run();
        if (!checks.end()) System.exit(1);
    }
}
