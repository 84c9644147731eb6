import java.io.IOException;
import java.nio.file.Path;
import java.util.List;

/** The script .ci/run, in small checkouts: it runs every test of the project and of the shared ones, and tells what fails. */
public final class ScriptTest {
    private static final String OWN = "src/test/java/";
    private static final String SHARED = "../shared/tests/";

    public static void main(String[] args) throws IOException, InterruptedException {
        Checkout good = started(OWN + "OneTest", "", OWN + "TwoTest", "", OWN + "Helper", "", SHARED + "Runs", "",
            SHARED + "MoreRuns", "");
        Checkout ownFail = started(OWN + "OneTest", "System.exit(1);", OWN + "TwoTest", "throw new IllegalStateException();",
            OWN + "ThreeTest", "", SHARED + "Runs", "");
        Checkout ownBroken = started(OWN + "OneTest", "nonsense", SHARED + "Runs", "");
        Checkout sharedFail = started(OWN + "OneTest", "", SHARED + "Runs", "System.exit(1);", SHARED + "MoreRuns", "");
        Checkout sharedBroken = started(OWN + "OneTest", "", SHARED + "Runs", "nonsense", SHARED + "MoreRuns", "");
        Checkout noShared = started(OWN + "OneTest", "");

        due(good, 0, "== OneTest", "== TwoTest", "== Runs", "== MoreRuns", "4 passed, 0 failed");
        due(ownFail, 1, "FAILED: OneTest", "FAILED: TwoTest", "== ThreeTest", "== Runs", "2 passed, 2 failed");
        due(ownBroken, 1, "FAILED: the class or the tests of the project do not compile");
        due(sharedFail, 1, "== OneTest", "FAILED: Runs", "== MoreRuns", "2 passed, 1 failed");
        due(sharedBroken, 1, "== OneTest", "FAILED: Runs does not compile", "== MoreRuns", "2 passed, 1 failed");
        due(noShared, 1, "== OneTest", "FAILED: no test under ../shared/tests", "1 passed, 1 failed");
        Check.finish();
    }

    /** Tests are told as their paths and what each does in its main method; the script is started from another folder. */
    private static Checkout started(String... tests) throws IOException {
        Checkout checkout = new Checkout();
        checkout.take(".ci/run");
        checkout.take("src/main/java/TwinRows.java");
        for (int i = 0; i < tests.length; i += 2) {
            String name = tests[i].substring(tests[i].lastIndexOf('/') + 1);
            checkout.write(tests[i] + ".java", "public final class " + name + " { public static void main(String[] args) { "
                + "new TwinRows(); " + tests[i + 1] + " } }");
        }
        checkout.start(Path.of("/"), checkout.folder().resolve(".ci/run").toString());
        return checkout;
    }

    private static void due(Checkout checkout, int exitCode, String... lines) throws IOException, InterruptedException {
        Check.about(".ci/run, due are " + List.of(lines));
        Check.due("exit code", checkout.exitCode(), exitCode);
        List<String> printed = checkout.printed();
        for (String line : lines) {
            Check.due("\"" + line + "\" in " + printed, printed.contains(line), true);
        }
        Check.due("a helper is no test", printed.contains("== Helper"), false);
        checkout.delete();
    }
}
