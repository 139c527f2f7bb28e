/** Runs every test of the project; the last line says how many passed and failed. */
public final class AllTests {
    private AllTests() {
    }

    public static void main(String[] args) {
        Edges.all();
        TextTests.all();
        WriteTests.all();
        RunTests.all();
        IndexTests.all();
        AskTests.all();
        ImageTests.all();
        RuleTests.all();
        ReadmeTests.all();
        ModelTests.all();
        if (!Checks.end()) {
            System.exit(1);
        }
    }
}
