/** Promise 5: the number of moves. */
public final class Promise05Test {
    private static final Runs RUNS = new Runs();

    public static void main(String[] args) {
        RUNS.play("works both open and minimised", """
            new(4, 1, 8, 8)
            addMove(0, 0, 1) = OK
            addMove(1, 0, 2) = OK
            addMove(0, 0, 2) = OK
            moveCount() = 3
            minimise() = 1
            quotientMoveCount() = 0
            moveCount() = 3
            reopen() = OK
            moveCount() = 3
            """);
        RUNS.play("0 moves", """
            new(12, 3, 32, 8)
            moveCount() = 0
            minimise() = 1
            moveCount() = 0
            reopen() = OK
            moveCount() = 0
            """);
        RUNS.play("M moves", """
            new(12, 3, 32, 8)
            addMove(0..7, 0..3, 0) = OK
            moveCount() = 32
            addMove(8, 0, 0) = FULL
            moveCount() = 32
            minimise() = 2
            moveCount() = 32
            reopen() = OK
            moveCount() = 32
            """);
        RUNS.play("every number of moves, upwards and downwards", upAndDown());
        RUNS.play("a refused call counts no move", """
            new(3, 1, 8, 8)
            addMove(0, 1, 1) = OK
            addMove(0, 1, 1) = PRESENT
            moveCount() = 1
            addMove(3, 1, 1) = BAD
            moveCount() = 1
            removeMove(1, 1, 1) = ABSENT
            moveCount() = 1
            removeMove(3, 1, 1) = BAD
            moveCount() = 1
            minimise() = 2
            addMove(1, 1, 1) = CLOSED
            removeMove(0, 1, 1) = CLOSED
            moveCount() = 1
            """);
        RUNS.play("it changes nothing", """
            new(3, 1, 8, 8)
            addMove(0, 1, 1) = OK
            moveCount() = 1
            moveCount() = 1
            moves() = 0.1.1
            """);
        RUNS.end();
    }

    private static String upAndDown() {
        StringBuilder script = new StringBuilder("new(4, 1, 32, 8)\nmoveCount() = 0\n");
        for (int move = 0; move < 32; move++) {
            script.append("addMove").append(triple(move)).append(" = OK\nmoveCount() = ").append(move + 1).append('\n');
        }
        for (int move = 0; move < 32; move++) {
            script.append("removeMove").append(triple(move)).append(" = OK\nmoveCount() = ").append(31 - move).append('\n');
        }
        return script.toString();
    }

    private static String triple(int move) {
        return "(" + move % 4 + ", " + move / 16 + ", " + move / 4 % 4 + ")";
    }
}
