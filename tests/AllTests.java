/** Runs every test of the project and ends with the line "N passed, N failed". */
public final class AllTests {
    public static void main(String[] arguments) {
        RandomRunsTests.run();
        if (Kit.finish() > 0) System.exit(1);
    }
}
