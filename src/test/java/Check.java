/** Counts wrong answers and ends the test with exit code 1 if there was one. */
final class Check {
    // A broken program may answer wrongly a million times; the first few tell enough.
    private static final int PRINTED = 5;

    private int checked;
    private int wrong;
    private int toPrint = PRINTED;

    /** Starts a part whose first wrong answers are printed, however many came before. */
    void begin() {
        toPrint = PRINTED;
    }

    void due(String where, String call, Object got, Object want) {
        checked++;
        if (!want.equals(got)) {
            wrong++;
            if (toPrint > 0) {
                toPrint--;
                System.out.println(where + ": " + call + " answered " + got + ", due is " + want);
            }
        }
    }

    void isTrue(String where, String what, boolean truth) {
        due(where, what, truth, true);
    }

    void end() {
        System.out.println(checked + " answers checked, " + wrong + " wrong");
        if (wrong != 0 || checked == 0) {
            System.exit(1);
        }
    }
}
