/** Runs every test of the project; ends with exit code 1 if an answer was not as it is due. */
final class AllTests {
    private static final int RANDOM_RUNS = 300;

    private AllTests() {
    }

    public static void main(String[] args) throws Exception {
        LanguageTest.run(args[0]);
        ReadmeTest.run();
        TextTest.run();
        BoardTest.run();
        ActionTest.run();
        SightTest.run();
        FaultTest.run();
        SetupTest.run();
        OrderTest.run();
        PlanTest.run();
        StageEdgesTest.run();
        ShotEdgesTest.run();
        FaultEdgesTest.run();
        SetupEdgesTest.run();
        TextEdgesTest.run();
        MethodEdgesTest.run();
        PromiseEdgesTest.run();
        RandomRunsTest.run(RANDOM_RUNS);
        Checks.end();
    }
}
