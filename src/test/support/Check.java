/** Gathers what is not as due, and ends the test with exit code 1 if there was anything. */
final class Check {
    private static final int MOST_SHOWN = 40;

    private static int wrong = 0;
    private static String under = "";

    private Check() {
    }

    /** Runs a test; what it finds wrong is shown under its title. */
    static void test(String title, Runnable body) {
        under = title + ": ";
        try {
            body.run();
        } catch (RuntimeException thrown) {
            due("a call", thrown, "no exception");
        }
        under = "";
    }

    static void due(String call, Object got, Object want) {
        if (!got.equals(want)) {
            wrong++;
            if (wrong <= MOST_SHOWN) {
                System.out.println(under + call + " answered " + got + ", due is " + want);
            }
        }
    }

    static void due(String call, long got, long want) {
        due(call, Long.valueOf(got), Long.valueOf(want));
    }

    static void finish() {
        System.out.println(wrong == 0 ? "all answers are as due" : wrong + " answers are not as due");
        if (wrong != 0) {
            System.exit(1);
        }
    }
}
