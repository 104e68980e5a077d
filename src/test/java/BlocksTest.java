/** Promises 6 to 12: minimising, opening again, the blocks and the quotient. */
public final class BlocksTest {
    private static final Runs RUNS = new Runs();

    public static void main(String[] args) {
        promise6();
        promise7();
        promises8To10();
        promises11And12();
        RUNS.end();
    }

    private static void promise6() {
        RUNS.play("6, no moves at all", """
            new(12, 3, 32, 32)
            minimise() = 1
            minimise() = CLOSED
            blocks() = 0 0 0 0 0 0 0 0 0 0 0 0
            moveCount() = 0
            """);
        RUNS.play("6, silent moves that change nothing are passed over", """
            new(5, 1, 16, 8)
            addMove(0, 0, 1) = OK
            addMove(1, 0, 2) = OK
            addMove(2, 1, 3) = OK
            minimise() = 2
            blocks() = 0 0 0 1 1
            moveCount() = 3
            """);
        RUNS.play("6, a silent move that gives up a choice counts", """
            new(4, 2, 16, 8)
            addMove(0, 1, 3) = OK
            addMove(0, 0, 1) = OK
            addMove(1, 2, 3) = OK
            addMove(2, 1, 3) = OK
            addMove(2, 2, 3) = OK
            minimise() = 4
            blocks() = 0 1 2 3
            """);
        RUNS.play("6, a path must not leave the class on its way", """
            new(6, 2, 16, 8)
            addMove(0, 0, 1) = OK
            addMove(0, 2, 3) = OK
            addMove(1, 1, 3) = OK
            addMove(4, 0, 1) = OK
            addMove(4, 2, 3) = OK
            addMove(4, 1, 3) = OK
            addMove(5, 0, 0) = OK
            minimise() = 4
            blocks() = 0 1 2 2 3 0
            """);
        RUNS.play("6, a visible label counts inside the class too", """
            new(3, 1, 16, 8)
            addMove(0, 1, 0) = OK
            addMove(1, 1, 2) = OK
            addMove(2, 1, 1) = OK
            minimise() = 1
            reopen() = OK
            removeMove(1, 1, 2) = OK
            minimise() = 3
            blocks() = 0 1 2
            """);
        RUNS.play("6, a silent self-move is a divergence", """
            new(3, 1, 16, 8)
            addMove(1, 0, 1) = OK
            minimise() = 2
            blocks() = 0 1 0
            """);
        RUNS.play("6, a silent cycle is one, and leading into it alone too", """
            new(6, 1, 16, 8)
            addMove(1, 0, 2) = OK
            addMove(2, 0, 3) = OK
            addMove(3, 0, 1) = OK
            addMove(4, 0, 1) = OK
            addMove(5, 0, 1) = OK
            addMove(5, 0, 0) = OK
            minimise() = 3
            blocks() = 0 1 1 1 1 2
            """);
        RUNS.play("6, a divergence in another class does not count", """
            new(4, 2, 16, 8)
            addMove(0, 0, 1) = OK
            addMove(0, 1, 3) = OK
            addMove(1, 0, 1) = OK
            addMove(2, 0, 2) = OK
            addMove(2, 0, 1) = OK
            addMove(2, 1, 3) = OK
            minimise() = 4
            blocks() = 0 1 2 3
            quotientMove(0, 0, 0) = NO
            quotientMove(2, 0, 2) = YES
            """);
        RUNS.play("6, twelve blocks, numbered by their least states", """
            new(12, 1, 32, 8)
            addMove(0, 1, 1) = OK
            addMove(1, 1, 2) = OK
            addMove(2, 1, 3) = OK
            addMove(3, 1, 4) = OK
            addMove(4, 1, 5) = OK
            addMove(5, 1, 6) = OK
            addMove(6, 1, 7) = OK
            addMove(7, 1, 8) = OK
            addMove(8, 1, 9) = OK
            addMove(9, 1, 10) = OK
            addMove(10, 1, 11) = OK
            minimise() = 12
            blocks() = 0 1 2 3 4 5 6 7 8 9 10 11
            quotientMoveCount() = 11
            """);
        RUNS.play("6, no formula right after it", """
            new(2, 1, 8, 8)
            minimise() = 1
            make(KIND_TRUE, 0, 0, 0) = 0
            minimise() = CLOSED
            formulaCount() = 1
            reopen() = OK
            minimise() = 1
            formulaCount() = 0
            """);
    }

    private static void promise7() {
        RUNS.play("7, opening again", """
            new(3, 1, 8, 8)
            reopen() = OPEN
            addMove(0, 1, 1) = OK
            minimise() = 2
            blocks() = 0 1 1
            make(KIND_TRUE, 0, 0, 0) = 0
            tell(0, 1) = 1
            reopen() = OK
            reopen() = OPEN
            formulaCount() = 0
            holds(0, 0) = OPEN
            blockCount() = OPEN
            blockOf(0) = OPEN
            moveCount() = 1
            hasMove(0, 1, 1) = YES
            addMove(1, 1, 2) = OK
            minimise() = 3
            blocks() = 0 1 2
            holds(0, 0) = BAD
            make(KIND_TRUE, 0, 0, 0) = 0
            reopen() = OK
            removeMove(0, 1, 1) = OK
            minimise() = 2
            blocks() = 0 1 0
            """);
    }

    private static void promises8To10() {
        RUNS.play("8 to 10, while open", """
            new(4, 1, 8, 8)
            blockCount() = OPEN
            blockOf(0) = OPEN
            blockOf(4) = OPEN
            blockOf(MIN) = OPEN
            leader(0) = OPEN
            leader(-1) = OPEN
            leader(MAX) = OPEN
            """);
        RUNS.play("8 to 10, ordinary and wrong arguments", """
            new(6, 1, 8, 8)
            addMove(5, 1, 0) = OK
            addMove(3, 1, 0) = OK
            addMove(2, 1, 3) = OK
            minimise() = 3
            blockCount() = 3
            blocks() = 0 0 1 2 0 2
            blockOf(-1) = BAD
            blockOf(6) = BAD
            blockOf(32) = BAD
            blockOf(MIN) = BAD
            blockOf(MAX) = BAD
            leader(0) = 0
            leader(1) = 2
            leader(2) = 3
            leader(3) = BAD
            leader(5) = BAD
            leader(-1) = BAD
            leader(MIN) = BAD
            leader(MAX) = BAD
            addMove(0, 1, 0) = CLOSED
            blockCount() = 3
            """);
        RUNS.play("10, the last state as a leader", """
            new(12, 1, 8, 8)
            addMove(11, 1, 11) = OK
            minimise() = 2
            leader(0) = 0
            leader(1) = 11
            leader(2) = BAD
            """);
    }

    private static void promises11And12() {
        RUNS.play("11 and 12, while open", """
            new(4, 1, 8, 8)
            addMove(0, 1, 0) = OK
            quotientMove(0, 1, 0) = OPEN
            quotientMove(MIN, MAX, -1) = OPEN
            quotientMoveCount() = OPEN
            """);
        RUNS.play("11 and 12, no moves", """
            new(4, 1, 8, 8)
            minimise() = 1
            quotientMove(0, 0, 0) = NO
            quotientMove(0, 1, 0) = NO
            quotientMoveCount() = 0
            """);
        RUNS.play("11, wrong arguments", """
            new(4, 2, 8, 8)
            addMove(0, 1, 1) = OK
            minimise() = 2
            quotientMove(0, 1, 1) = YES
            quotientMove(1, 1, 0) = NO
            quotientMove(2, 1, 0) = BAD
            quotientMove(-1, 1, 0) = BAD
            quotientMove(MIN, 1, 0) = BAD
            quotientMove(MAX, 1, 0) = BAD
            quotientMove(0, 3, 0) = BAD
            quotientMove(0, -1, 0) = BAD
            quotientMove(0, MIN, 0) = BAD
            quotientMove(0, MAX, 0) = BAD
            quotientMove(0, 1, 2) = BAD
            quotientMove(0, 1, 3) = BAD
            quotientMove(0, 1, -1) = BAD
            quotientMove(0, 1, MIN) = BAD
            quotientMove(0, 1, MAX) = BAD
            """);
        RUNS.play("11 and 12, silent moves inside a block without divergence", """
            new(4, 1, 8, 8)
            addMove(0, 0, 1) = OK
            addMove(1, 0, 2) = OK
            addMove(0, 0, 2) = OK
            minimise() = 1
            quotientMove(0, 0, 0) = NO
            quotientMoveCount() = 0
            """);
        RUNS.play("11 and 12, a divergence counts once", """
            new(4, 1, 8, 8)
            addMove(0, 0, 1) = OK
            addMove(1, 0, 0) = OK
            addMove(0, 0, 0) = OK
            addMove(2, 0, 3) = OK
            addMove(3, 0, 2) = OK
            minimise() = 1
            quotientMove(0, 0, 0) = YES
            quotientMove(0, 1, 0) = NO
            quotientMoveCount() = 1
            """);
        RUNS.play("11 and 12, visible moves inside a block and many that give rise to one", """
            new(4, 2, 16, 8)
            addMove(0, 1, 1) = OK
            addMove(1, 1, 0) = OK
            addMove(0, 2, 2) = OK
            addMove(1, 2, 3) = OK
            addMove(0, 2, 3) = OK
            minimise() = 2
            blocks() = 0 0 1 1
            quotientMove(0, 1, 0) = YES
            quotientMove(0, 2, 1) = YES
            quotientMove(0, 2, 0) = NO
            quotientMove(1, 2, 0) = NO
            quotientMove(0, 0, 0) = NO
            quotientMove(0, 0, 1) = NO
            quotientMoveCount() = 2
            """);
        RUNS.play("11 and 12, a move of some state but not of all", """
            new(4, 1, 16, 8)
            addMove(0, 0, 1) = OK
            addMove(1, 1, 2) = OK
            addMove(2, 0, 2) = OK
            addMove(3, 0, 2) = OK
            addMove(3, 1, 2) = OK
            addMove(0, 0, 3) = OK
            minimise() = 4
            blocks() = 0 1 2 3
            quotientMove(0, 0, 1) = YES
            quotientMove(0, 0, 3) = YES
            quotientMove(0, 1, 2) = NO
            quotientMove(1, 1, 2) = YES
            quotientMove(2, 0, 2) = YES
            quotientMove(3, 0, 2) = YES
            quotientMove(3, 1, 2) = YES
            quotientMoveCount() = 6
            reopen() = OK
            removeMove(3, 0, 2) = OK
            minimise() = 2
            blocks() = 0 0 1 0
            quotientMove(0, 1, 1) = YES
            quotientMoveCount() = 2
            """);
    }
}
