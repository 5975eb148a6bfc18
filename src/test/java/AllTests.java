/** Runs every test of the project; ends with exit code 1 if one fails. */
public final class AllTests {
    private AllTests() {
    }

    public static void main(String[] args) {
        TextTest.run();
        StableTest.run();
        MinutesTest.run();
        AheadTest.run();
        ContractTest.run();
        FerryTest.run();
        CarrotTest.run();
        HeardTest.run();
        ClockTest.run();
        KeptTest.run();
        ModelTest.run();
        LanguageTest.run();
        ExtremeTest.run();
        ReadmeTest.run();
        TermsEdges.run();
        TextEdges.run();
        StableEdges.run();
        MinutesEdges.run();
        AheadEdges.run();
        LaterEdges.run();
        int passed = 0;
        int failed = 0;
        for (int p = 1; p < Check.ALL; p++) {
            if (Check.checks[p] == 0) {
                System.out.println("no test of " + p);
            }
            if (Check.checks[p] > 0 && Check.wrong[p] == 0) {
                passed++;
            } else {
                failed++;
            }
        }
        for (int p = 1; p <= Check.PROMISES; p++) {
            if (Edge.edges[p] == 0) {
                System.out.println("no boundary case of promise " + p);
                failed++;
            }
        }
        System.out.println(passed + " passed, " + failed + " failed");
        System.out.println("boundary cases: " + Edge.passed + " passed, " + Edge.failed + " failed");
        if (failed + Edge.failed > 0) {
            System.exit(1);
        }
    }
}
