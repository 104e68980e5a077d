/** Counts wrong answers and ends the test with exit code 1 if there was one. */
final class Check {
    // A broken program may answer wrongly a million times; the first few tell enough.
    private static final int PRINTED = 5;
    // Far above what a test takes, even on a slow machine.
    private static final long LONGEST_MILLIS = 600_000;

    private int checked;
    private int wrong;
    private int toPrint = PRINTED;

    Check() {
        Thread watch = new Thread(Check::failInTheEnd);
        watch.setDaemon(true);
        watch.start();
    }

    // Every call has to end, so a test that hangs has found a fault and must not hang for ever.
    private static void failInTheEnd() {
        try {
            Thread.sleep(LONGEST_MILLIS);
        } catch (InterruptedException e) {
            return;
        }
        System.out.println("the test did not end");
        Runtime.getRuntime().halt(1);
    }

    /** Starts a part whose first wrong answers are printed, however many came before. */
    void begin() {
        toPrint = PRINTED;
    }

    void due(String where, String call, Object got, Object want) {
        checked++;
        if (!want.equals(got)) {
            wrong++;
            if (toPrint > 0) {
                toPrint--;
                System.out.println(where + ": " + call + " answered " + got + ", due is " + want);
            }
        }
    }

    void isTrue(String where, String what, boolean truth) {
        due(where, what, truth, true);
    }

    void end() {
        System.out.println(checked + " answers checked, " + wrong + " wrong");
        if (wrong != 0 || checked == 0) {
            System.exit(1);
        }
    }
}
