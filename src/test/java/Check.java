/** Counts and prints the answers of one test that are not the ones due. */
final class Check {
    // Far above the few seconds that a test needs.
    private static final int MOST_SECONDS = 300;

    private int wrong = 0;
    private int looked = 0;

    Check() {
        stopAfter(MOST_SECONDS);
    }

    void due(String call, int got, int want) {
        looked++;
        if (got != want) {
            wrong++;
            System.out.println(call + " answered " + got + ", due is " + want);
        }
    }

    void isTrue(String claim, boolean holds) {
        looked++;
        if (!holds) {
            wrong++;
            System.out.println("not so: " + claim);
        }
    }

    /** A call that fails to end must fail the test, not hold it up for ever. */
    private static void stopAfter(int seconds) {
        Thread watch = new Thread(() -> {
            try {
                Thread.sleep(seconds * 1000L);
            } catch (InterruptedException stopped) {
                return;
            }
            System.out.println("no end after " + seconds + " seconds");
            Runtime.getRuntime().halt(1);
        });
        watch.setDaemon(true);
        watch.start();
    }

    void end() {
        System.out.println(looked + " answers looked at, " + wrong + " wrong");
        if (wrong != 0) {
            System.exit(1);
        }
    }
}
