/** Promise 12: the number of moves of the quotient. */
public final class Promise12Test {
    private static final Runs RUNS = new Runs();

    public static void main(String[] args) {
        RUNS.play("OPEN if the object is open", """
            new(4, 1, 8, 8)
            quotientMoveCount() = OPEN
            addMove(0, 1, 0) = OK
            quotientMoveCount() = OPEN
            minimise() = 2
            quotientMoveCount() = 1
            reopen() = OK
            quotientMoveCount() = OPEN
            """);
        RUNS.play("else the number of moves of the quotient", """
            new(4, 2, 16, 8)
            addMove(0, 1, 1) = OK
            addMove(1, 2, 2) = OK
            addMove(0, 0, 3) = OK
            addMove(3, 2, 1) = OK
            addMove(3, 1, 3) = OK
            minimise() = 4
            quotientMoveCount() = 5
            quotient() = 0.1.1 1.2.2 0.0.3 3.2.1 3.1.3
            """);
        RUNS.play("silent ones (b, 0, b) included", """
            new(4, 1, 8, 8)
            addMove(0, 0, 0) = OK
            minimise() = 2
            quotientMoveCount() = 1
            reopen() = OK
            addMove(1, 0, 2) = OK
            addMove(2, 0, 1) = OK
            addMove(1, 1, 3) = OK
            minimise() = 3
            quotientMoveCount() = 3
            """);
        RUNS.play("each move of the quotient counts once, however many moves of the system give rise to it", """
            new(6, 1, 16, 8)
            addMove(0..2, 1, 3..5) = OK
            moveCount() = 9
            minimise() = 2
            quotientMoveCount() = 1
            """);
        RUNS.play("a silent (b, 0, b) counts once, however many cycles give rise to it", """
            new(4, 1, 16, 8)
            addMove(0..3, 0, 0..3) = OK
            minimise() = 1
            quotientMoveCount() = 1
            """);
        RUNS.play("a visible (b, a, b) counts once for each label", """
            new(4, 3, 32, 8)
            addMove(0..3, 1..2, 0..3) = OK
            minimise() = 1
            quotientMoveCount() = 2
            """);
        RUNS.play("the answer is 0 if the quotient has no move", """
            new(4, 1, 8, 8)
            minimise() = 1
            quotientMoveCount() = 0
            reopen() = OK
            addMove(0, 0, 1) = OK
            addMove(1, 0, 2) = OK
            addMove(0, 0, 3) = OK
            minimise() = 1
            quotientMoveCount() = 0
            """);
        RUNS.play("as many moves of the quotient as can be", """
            new(12, 3, 32, 8)
            addMove(0, 1, 1) = OK
            addMove(1, 1, 2) = OK
            addMove(2, 1, 3) = OK
            addMove(3, 1, 4) = OK
            addMove(4, 1, 5) = OK
            addMove(5, 1, 6) = OK
            addMove(6, 1, 7) = OK
            addMove(7, 1, 8) = OK
            addMove(8, 1, 9) = OK
            addMove(9, 1, 10) = OK
            addMove(10, 1, 11) = OK
            addMove(0..11, 2, 0) = OK
            addMove(0..8, 3, 11) = OK
            moveCount() = 32
            minimise() = 12
            quotientMoveCount() = 32
            """);
        RUNS.play("it goes by the moves of the last minimise()", """
            new(3, 1, 8, 8)
            addMove(0, 1, 1) = OK
            addMove(1, 1, 2) = OK
            minimise() = 3
            quotientMoveCount() = 2
            reopen() = OK
            removeMove(0, 1, 1) = OK
            minimise() = 2
            quotientMoveCount() = 1
            """);
        RUNS.play("it changes nothing", """
            new(3, 1, 8, 8)
            addMove(1, 1, 1) = OK
            minimise() = 2
            tell(1, 0) = 0
            quotientMoveCount() = 1
            quotientMoveCount() = 1
            blocks() = 0 1 0
            states(0) = 0 1 0
            """);
        RUNS.end();
    }
}
