/** Counts what passed and what failed, and says what was asked where an answer was not the one due. */
final class Checks {
    private static int passed;
    private static int failed;
    private static String name = "";
    private static int wrong;

    private Checks() {
    }

    interface Body {
        void run();
    }

    static void test(String told, Body body) {
        name = told;
        wrong = 0;
        try {
            body.run();
        } catch (RuntimeException | StackOverflowError thrown) {
            wrong++;
            System.out.println("FAILED: " + name + ": " + thrown);
            thrown.printStackTrace(System.out);
        }
        if (wrong == 0) {
            passed++;
        } else {
            failed++;
        }
    }

    static void same(String call, long got, long due) {
        if (got == due) {
            return;
        }
        wrong++;
        if (wrong <= 10) {
            System.out.println("FAILED: " + name + ": " + call + " answered " + got + ", due is " + due);
        }
    }

    static void same(String call, boolean got, boolean due) {
        same(call, got ? 1 : 0, due ? 1 : 0);
    }

    static boolean isRight() {
        return wrong == 0;
    }

    /** The last line, which .ci/run reads; true if all passed. */
    static boolean end() {
        System.out.println("own tests: " + passed + " passed, " + failed + " failed");
        return failed == 0;
    }
}
