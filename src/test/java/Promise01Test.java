/** Promise 1: the constructor and the start. */
public final class Promise01Test {
    private static final Runs RUNS = new Runs();

    private static final int[] LEAST = {2, 1, 8, 8};
    private static final int[] GREATEST = {12, 3, 32, 32};
    private static final int[] BETWEEN = {5, 2, 11, 13};
    private static final String[] NAMES = {"N = states", "L = labels", "M = moves", "Q = formulas"};

    public static void main(String[] args) {
        for (int argument = 0; argument < NAMES.length; argument++) {
            belowTheLeast(argument);
            aboveTheGreatest(argument);
            anyOtherStays(argument);
        }
        eachByItself();
        fresh();
        noLaterCallChangesThem();
        RUNS.end();
    }

    private static void belowTheLeast(int argument) {
        for (int given : Ints.below(LEAST[argument])) {
            oneGiven(NAMES[argument] + ", a value below the least becomes the least", argument, given, LEAST[argument]);
        }
    }

    private static void aboveTheGreatest(int argument) {
        for (int given : Ints.above(GREATEST[argument])) {
            oneGiven(NAMES[argument] + ", a value above the greatest becomes the greatest", argument, given,
                GREATEST[argument]);
        }
    }

    private static void anyOtherStays(int argument) {
        for (int given = LEAST[argument]; given <= GREATEST[argument]; given++) {
            oneGiven(NAMES[argument] + ", any other value stays", argument, given, given);
        }
    }

    private static void oneGiven(String sentence, int argument, int given, int due) {
        int[] sizes = BETWEEN.clone();
        int[] dues = BETWEEN.clone();
        sizes[argument] = given;
        dues[argument] = due;
        RUNS.play(sentence, fresh(sizes) + showsSizes(dues));
    }

    private static void eachByItself() {
        for (int pick = 0; pick < 6 * 6 * 6 * 6; pick++) {
            int[] sizes = new int[4];
            int[] dues = new int[4];
            int rest = pick;
            for (int argument = 0; argument < 4; argument++) {
                int[] edges = {Integer.MIN_VALUE, LEAST[argument] - 1, LEAST[argument],
                    GREATEST[argument], GREATEST[argument] + 1, Integer.MAX_VALUE};
                sizes[argument] = edges[rest % 6];
                dues[argument] = rest % 6 < 3 ? LEAST[argument] : GREATEST[argument];
                rest /= 6;
            }
            RUNS.play("each argument is clamped by itself", fresh(sizes) + showsSizes(dues));
        }
    }

    private static void fresh() {
        for (String sizes : new String[] {"2, 1, 8, 8", "5, 2, 11, 13", "12, 3, 32, 32", "MIN, MIN, MIN, MIN",
            "0, 0, 0, 0", "MAX, MAX, MAX, MAX"}) {
            String object = "new(" + sizes + ")\n";
            RUNS.play("a fresh object is open", object + """
                blockCount() = OPEN
                quotientMoveCount() = OPEN
                reopen() = OPEN
                addMove(0, 0, 1) = OK
                """);
            RUNS.play("a fresh object has no move", object + """
                moves() = none
                minimise() = 1
                moves() = none
                """);
            RUNS.play("a fresh object has no formula", object + """
                formulaCount() = 0
                minimise() = 1
                formulaCount() = 0
                holds(0, 0) = BAD
                """);
        }
    }

    private static void noLaterCallChangesThem() {
        String whileMinimised = """
            addMove(ANY, ANY, ANY) = CLOSED
            removeMove(ANY, ANY, ANY) = CLOSED
            minimise() = CLOSED
            tell(<0, ANY) = BAD
            make(>4, 0, 0, 0) = BAD
            reopen() = OK
            """;
        String whileOpen = """
            make(ANY, ANY, ANY, ANY) = OPEN
            tell(ANY, ANY) = OPEN
            reopen() = OPEN
            addMove(<0, 0, 0) = BAD
            removeMove(>11, 0, 0) = BAD
            """;
        for (int[] sizes : new int[][] {LEAST, BETWEEN, GREATEST}) {
            String round = showsSizes(sizes) + whileMinimised + whileOpen;
            RUNS.play("no later call changes N, L, M or Q", fresh(sizes) + round + round + round);
        }
    }

    private static String fresh(int[] sizes) {
        return Calls.text("new", sizes) + "\n";
    }

    /** Shows the four numbers of an open object without moves, which is then minimised, again without moves. */
    private static String showsSizes(int[] sizes) {
        int n = sizes[0];
        int l = sizes[1];
        int last = n - 1;
        StringBuilder script = new StringBuilder();
        line(script, "hasMove(" + last + ", " + l + ", " + last + ") = NO");
        line(script, "hasMove(" + n + ", 0, 0) = BAD");
        line(script, "hasMove(0, " + (l + 1) + ", 0) = BAD");
        line(script, "hasMove(0, 0, " + n + ") = BAD");
        showsRoomForMoves(script, n, l, sizes[2]);
        line(script, "minimise() = 1");
        line(script, "blockOf(" + last + ") = 0");
        line(script, "blockOf(" + n + ") = BAD");
        line(script, "quotientMove(0, " + l + ", 0) = NO");
        line(script, "quotientMove(0, " + (l + 1) + ", 0) = BAD");
        for (int formula = 0; formula < sizes[3]; formula++) {
            line(script, "make(KIND_TRUE, 0, 0, 0) = " + formula);
        }
        line(script, "make(KIND_TRUE, 0, 0, 0) = FULL");
        line(script, "formulaCount() = " + sizes[3]);
        return script.toString();
    }

    // With few states there are not enough moves to be had to fill the room.
    private static void showsRoomForMoves(StringBuilder script, int n, int l, int m) {
        int possible = n * (l + 1) * n;
        int added = Math.min(m, possible);
        for (int move = 0; move < added; move++) {
            line(script, "addMove" + triple(move, n) + " = OK");
        }
        line(script, "addMove" + triple(added - 1, n) + " = PRESENT");
        if (possible > m) {
            line(script, "addMove" + triple(m, n) + " = FULL");
        }
        line(script, "moveCount() = " + added);
        for (int move = 0; move < added; move++) {
            line(script, "removeMove" + triple(move, n) + " = OK");
        }
    }

    private static String triple(int move, int n) {
        return "(" + move % n + ", " + move / n / n + ", " + move / n % n + ")";
    }

    private static void line(StringBuilder script, String text) {
        script.append(text).append('\n');
    }
}
