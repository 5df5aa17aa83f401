/** Runs every test of the project and ends with the line "N passed, N failed". */
public final class AllTests {
    public static void main(String[] arguments) {
        FaceTests.run();
        ReadmeTests.run();
        CanalTests.run();
        TextTests.run();
        BargeTests.run();
        OrderTests.run();
        AccountTests.run();
        ForecastTests.run();
        ChangeTests.run();
        MinuteTests.run();
        ScriptTests.run();
        HistoryTests.run();
        CanalEdgeTests.run();
        BargeEdgeTests.run();
        OrderEdgeTests.run();
        MinuteEdgeTests.run();
        TextEdgeTests.run();
        ScriptEdgeTests.run();
        ChangeEdgeTests.run();
        AccountEdgeTests.run();
        ForecastEdgeTests.run();
        HistoryEdgeTests.run();
        Document.run();
        Kit.test(0, "every promise has a test", () -> {
            for (int promise = 1; promise <= 63; promise++) Kit.same("a test of promise " + promise, Kit.PROMISES.contains(promise), true);
        });
        RandomRunsTests.run();
        if (Kit.finish() > 0) System.exit(1);
    }
}
