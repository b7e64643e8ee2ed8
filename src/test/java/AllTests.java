/** Runs every test of the project; ends with exit code 1 if one fails. */
public final class AllTests {
    private AllTests() {
    }

    public static void main(String[] args) throws Exception {
        Checks checks = new Checks();
        new DeltaTests(checks).run();
        new WaysTests(checks).run();
        new SoundingsTests(checks).run();
        new ChanceTests(checks).run();
        new SheetTests(checks).run();
        new DeltaEdges(checks).run();
        new WaysEdges(checks).run();
        new SoundingsEdges(checks).run();
        new ChanceEdges(checks).run();
        new SheetEdges(checks).run();
        new RefusalTests(checks).run();
        checks.begin("edges");
        for (int promise = 1; promise <= 37; promise++) {
            checks.holds("promise " + promise + " has a test of its edges", checks.hasEdges(promise));
        }
        new ModelTests(checks).run();
        new LanguageTests(checks).run();
        new ReadmeTests(checks).run();
        if (!checks.end()) System.exit(1);
    }
}
