/** Counts the answers that are not as due, prints each, and ends the test by them. */
final class Due {
    private static final long MOST_MILLISECONDS = 300_000;

    private int asked;
    private int wrong;

    Due() {
        Thread watch = new Thread(Due::endLate);
        watch.setDaemon(true);
        watch.start();
    }

    /** A call that does not end is a fault, too, and must not keep .ci/run from telling it. */
    private static void endLate() {
        try {
            Thread.sleep(MOST_MILLISECONDS);
        } catch (InterruptedException early) {
            return;
        }
        System.out.println("a call does not end");
        Runtime.getRuntime().halt(1);
    }

    void is(String call, long got, long want) {
        asked++;
        if (got != want) {
            wrong++;
            System.out.println(call + " answered " + got + ", due is " + want);
        }
    }

    boolean failed() {
        return wrong != 0;
    }

    void end() {
        System.out.println(asked + " answers, " + wrong + " of them not as due");
        if (wrong != 0 || asked == 0) {
            System.exit(1);
        }
    }
}
