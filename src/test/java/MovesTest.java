/** Promises 1 to 5: the constructor and the moves. */
public final class MovesTest {
    private static final Runs RUNS = new Runs();

    public static void main(String[] args) {
        promise1();
        promise2();
        promise3();
        promise4And5();
        RUNS.end();
    }

    private static void promise1() {
        RUNS.play("1, a fresh object", """
            new(4, 2, 10, 9)
            moveCount() = 0
            formulaCount() = 0
            blockCount() = OPEN
            reopen() = OPEN
            hasMove(3, 2, 3) = NO
            hasMove(4, 2, 3) = BAD
            hasMove(3, 3, 3) = BAD
            """);
        clampedStates("MIN", 2);
        clampedStates("-1", 2);
        clampedStates("0", 2);
        clampedStates("1", 2);
        clampedStates("2", 2);
        clampedStates("3", 3);
        clampedStates("11", 11);
        clampedStates("12", 12);
        clampedStates("13", 12);
        clampedStates("MAX", 12);
        clampedLabels("MIN", 1);
        clampedLabels("0", 1);
        clampedLabels("1", 1);
        clampedLabels("2", 2);
        clampedLabels("3", 3);
        clampedLabels("4", 3);
        clampedLabels("MAX", 3);
        clampedRoom("MIN", 8);
        clampedRoom("0", 8);
        clampedRoom("7", 8);
        clampedRoom("8", 8);
        clampedRoom("9", 9);
        clampedRoom("31", 31);
        clampedRoom("32", 32);
        clampedRoom("33", 32);
        clampedRoom("MAX", 32);
    }

    private static void clampedStates(String given, int states) {
        String script = "new(" + given + ", 2, 16, 16)\n"
            + "addMove(" + (states - 1) + ", 1, 0) = OK\n"
            + "addMove(" + states + ", 1, 0) = BAD\n"
            + "addMove(0, 1, " + (states - 1) + ") = OK\n"
            + "addMove(0, 1, " + states + ") = BAD\n";
        RUNS.play("1, states " + given, script);
    }

    private static void clampedLabels(String given, int labels) {
        String script = "new(5, " + given + ", 16, 16)\n"
            + "addMove(0, " + labels + ", 0) = OK\n"
            + "addMove(0, " + (labels + 1) + ", 0) = BAD\n"
            + "addMove(0, 0, 0) = OK\n";
        RUNS.play("1, labels " + given, script);
    }

    private static void clampedRoom(String given, int room) {
        StringBuilder moves = new StringBuilder("new(12, 3, " + given + ", 16)\n");
        for (int move = 0; move < room; move++) {
            moves.append("addMove(").append(move % 12).append(", ").append(move / 12).append(", 5) = OK\n");
        }
        moves.append("addMove(11, 3, 11) = FULL\nmoveCount() = ").append(room);
        RUNS.play("1, moves " + given, moves.toString());

        StringBuilder formulas = new StringBuilder("new(3, 1, 16, " + given + ")\nminimise() = 1\n");
        for (int formula = 0; formula < room; formula++) {
            formulas.append("make(KIND_TRUE, 0, 0, 0) = ").append(formula).append('\n');
        }
        formulas.append("make(KIND_TRUE, 0, 0, 0) = FULL\nformulaCount() = ").append(room);
        RUNS.play("1, formulas " + given, formulas.toString());
    }

    private static void promise2() {
        RUNS.play("2, every label and self-moves", """
            new(3, 2, 20, 8)
            addMove(0, 0, 0) = OK
            addMove(1, 1, 1) = OK
            addMove(2, 2, 2) = OK
            addMove(0, 2, 1) = OK
            addMove(0, 2, 1) = PRESENT
            addMove(1, 2, 0) = OK
            addMove(0, 1, 1) = OK
            moveCount() = 6
            hasMove(0, 0, 0) = YES
            hasMove(1, 1, 1) = YES
            hasMove(2, 2, 2) = YES
            hasMove(0, 2, 1) = YES
            hasMove(1, 2, 0) = YES
            hasMove(0, 1, 1) = YES
            hasMove(1, 0, 0) = NO
            blockCount() = OPEN
            """);
        RUNS.play("2, wrong arguments", wrongArguments("addMove") + "moveCount() = 0\n");
        RUNS.play("2, a full object", """
            new(3, 1, 8, 8)
            addMove(0, 0, 0) = OK
            addMove(0, 0, 1) = OK
            addMove(0, 0, 2) = OK
            addMove(1, 0, 0) = OK
            addMove(1, 0, 1) = OK
            addMove(1, 0, 2) = OK
            addMove(2, 0, 0) = OK
            addMove(2, 0, 1) = OK
            addMove(2, 0, 2) = FULL
            addMove(2, 0, 1) = PRESENT
            addMove(3, 0, 1) = BAD
            addMove(2, 2, 2) = BAD
            moveCount() = 8
            hasMove(2, 0, 2) = NO
            minimise() = 1
            addMove(2, 0, 2) = CLOSED
            addMove(2, 0, 1) = CLOSED
            addMove(3, -1, MAX) = CLOSED
            moveCount() = 8
            """);
    }

    private static void promise3() {
        RUNS.play("3, removing", """
            new(3, 1, 8, 8)
            removeMove(0, 0, 0) = ABSENT
            addMove(0, 0, 1) = OK
            addMove(0, 1, 1) = OK
            addMove(1, 0, 0) = OK
            removeMove(0, 0, 2) = ABSENT
            removeMove(0, 0, 1) = OK
            removeMove(0, 0, 1) = ABSENT
            moveCount() = 2
            hasMove(0, 0, 1) = NO
            hasMove(0, 1, 1) = YES
            hasMove(1, 0, 0) = YES
            blockCount() = OPEN
            minimise() = 2
            removeMove(0, 1, 1) = CLOSED
            removeMove(0, 0, 1) = CLOSED
            removeMove(-1, 0, 1) = CLOSED
            moveCount() = 2
            reopen() = OK
            removeMove(0, 1, 1) = OK
            removeMove(1, 0, 0) = OK
            moveCount() = 0
            """);
        RUNS.play("3, wrong arguments", wrongArguments("removeMove") + "moveCount() = 0\n");
        RUNS.play("3, freed room", """
            new(8, 1, 8, 8)
            addMove(0, 1, 0) = OK
            addMove(1, 1, 0) = OK
            addMove(2, 1, 0) = OK
            addMove(3, 1, 0) = OK
            addMove(4, 1, 0) = OK
            addMove(5, 1, 0) = OK
            addMove(6, 1, 0) = OK
            addMove(7, 1, 0) = OK
            addMove(7, 1, 7) = FULL
            removeMove(7, 1, 7) = ABSENT
            addMove(7, 1, 7) = FULL
            removeMove(3, 1, 0) = OK
            addMove(7, 1, 7) = OK
            addMove(3, 1, 0) = FULL
            moveCount() = 8
            """);
    }

    private static void promise4And5() {
        RUNS.play("4 and 5, open and minimised", """
            new(4, 1, 8, 8)
            moveCount() = 0
            addMove(0, 0, 1) = OK
            addMove(1, 0, 0) = OK
            addMove(2, 0, 2) = OK
            hasMove(0, 0, 1) = YES
            hasMove(0, 0, 0) = NO
            hasMove(2, 0, 2) = YES
            moveCount() = 3
            minimise() = 2
            hasMove(0, 0, 1) = YES
            hasMove(0, 0, 0) = NO
            hasMove(1, 0, 1) = NO
            hasMove(2, 0, 2) = YES
            hasMove(3, 0, 3) = NO
            hasMove(4, 0, 0) = BAD
            moveCount() = 3
            reopen() = OK
            hasMove(0, 0, 1) = YES
            moveCount() = 3
            """);
        RUNS.play("4, wrong arguments", wrongArguments("hasMove"));
    }

    private static String wrongArguments(String call) {
        return """
            new(5, 2, 16, 16)
            CALL(-1, 0, 0) = BAD
            CALL(5, 0, 0) = BAD
            CALL(MIN, 0, 0) = BAD
            CALL(MAX, 0, 0) = BAD
            CALL(32, 0, 0) = BAD
            CALL(0, -1, 0) = BAD
            CALL(0, 3, 0) = BAD
            CALL(0, MIN, 0) = BAD
            CALL(0, MAX, 0) = BAD
            CALL(0, 0, -1) = BAD
            CALL(0, 0, 5) = BAD
            CALL(0, 0, MIN) = BAD
            CALL(0, 0, MAX) = BAD
            CALL(0, 0, 32) = BAD
            CALL(-1, -1, -1) = BAD
            """.replace("CALL", call);
    }
}
