import java.io.IOException;

/** That .ci/run passes if all tests pass, and fails if one fails, wherever that one stands. */
public final class CiRunTest {
    private static final String PROGRAM = "src/main/java/DisjointPaths.java";
    private static final String OWN = "src/test/java/";
    private static final String SHARED = "../shared/tests/";

    public static void main(String[] args) throws IOException, InterruptedException {
        allPass();
        oneFails(OWN);
        oneFails(SHARED);
        otherWaysToFail();
        noTestIsFound(OWN, SHARED);
        noTestIsFound(SHARED, OWN);
        theProgramDoesNotCompile();
        Due.end();
    }

    private static void allPass() throws IOException, InterruptedException {
        try (Sandbox sandbox = withPassingTests()) {
            sandbox.write(OWN + "HelpedTest.java", test("HelpedTest", "Due.end();"));
            sandbox.copy("src/test/support/Due.java");
            int code = sandbox.run("cd / && \"$OLDPWD\"/.ci/run");
            Due.is("all tests pass, started from another folder: exit code", code, 0);
            told(sandbox, "passed: " + OWN + "BTest.java");
            told(sandbox, "passed: " + OWN + "HelpedTest.java");
            told(sandbox, "passed: " + SHARED + "BTest.java");
        }
    }

    // The failing one comes before others, which must not make it forgotten.
    private static void oneFails(String folder) throws IOException, InterruptedException {
        try (Sandbox sandbox = withPassingTests()) {
            sandbox.write(folder + "ATest.java", test("ATest", "System.exit(1);"));
            Due.is("one in " + folder + " fails: exit code", sandbox.run(".ci/run"), 1);
            told(sandbox, "FAILED: " + folder + "ATest.java");
            told(sandbox, "passed: " + SHARED + "BTest.java");
        }
    }

    private static void otherWaysToFail() throws IOException, InterruptedException {
        try (Sandbox sandbox = withoutTests()) {
            sandbox.write(OWN + "ATest.java", test("ATest", "new int[0][0] = 1;"));
            sandbox.write(SHARED + "BTest.java", test("BTest", "new DisjointPaths(3).unknown();"));
            Due.is("one throws, one does not compile: exit code", sandbox.run(".ci/run"), 1);
            told(sandbox, "FAILED: " + OWN + "ATest.java");
            told(sandbox, "FAILED: " + SHARED + "BTest.java");
        }
    }

    private static void noTestIsFound(String empty, String other) throws IOException, InterruptedException {
        try (Sandbox sandbox = withoutTests()) {
            sandbox.write(other + "ATest.java", test("ATest", ""));
            Due.is("no test in " + empty + ": exit code", sandbox.run(".ci/run"), 1);
            told(sandbox, "passed: " + other + "ATest.java");
        }
    }

    private static void theProgramDoesNotCompile() throws IOException, InterruptedException {
        try (Sandbox sandbox = withPassingTests()) {
            sandbox.write(PROGRAM, "public final class DisjointPaths { int broken }");
            Due.is("the program does not compile: exit code", sandbox.run(".ci/run"), 1);
        }
    }

    private static Sandbox withPassingTests() throws IOException {
        Sandbox sandbox = withoutTests();
        sandbox.write(OWN + "BTest.java", test("BTest", "new DisjointPaths(3).paths();"));
        sandbox.write(SHARED + "BTest.java", test("BTest", "new DisjointPaths(3).paths();"));
        return sandbox;
    }

    private static Sandbox withoutTests() throws IOException {
        Sandbox sandbox = new Sandbox();
        sandbox.copy(".ci");
        sandbox.copy("src/main");
        return sandbox;
    }

    private static String test(String name, String body) {
        return "public final class " + name + " { public static void main(String[] args) { " + body + " } }";
    }

    private static void told(Sandbox sandbox, String line) {
        boolean told = sandbox.printed().lines().anyMatch(line::equals);
        Due.is("the line " + line + " in: " + sandbox.printed(), told, true);
    }
}
