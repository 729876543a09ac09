/** Counts the answers that are not the ones due; each test ends with finish(). */
final class Check {
    private static final long MOST_SECONDS = 120;
    private static int wrong = 0;
    private static int asked = 0;

    static {
        Thread watch = new Thread(Check::waitAndStop);
        watch.setDaemon(true);
        watch.start();
    }

    private Check() {
    }

    static void due(String call, long got, long want) {
        asked++;
        if (got != want) {
            wrong++;
            System.out.println(call + " answered " + got + ", due is " + want);
        }
    }

    static void holds(String what, boolean is) {
        due(what, is ? 1 : 0, 1);
    }

    /** A call that does not end must fail the test, not hold it up. */
    private static void waitAndStop() {
        try {
            Thread.sleep(MOST_SECONDS * 1000);
        } catch (InterruptedException stopped) {
            return;
        }
        System.out.println("not ended after " + MOST_SECONDS + " seconds");
        Runtime.getRuntime().halt(1);
    }

    static int wrongSoFar() {
        return wrong;
    }

    static void finish() {
        System.out.println(asked + " answers, " + wrong + " not as due");
        if (wrong != 0) {
            System.exit(1);
        }
    }
}
