/** Promise 7: opening again. */
public final class Promise07Test {
    private static final Runs RUNS = new Runs();

    private static final String MINIMISED = """
        new(3, 1, 8, 8)
        addMove(0, 1, 1) = OK
        addMove(2, 0, 2) = OK
        minimise() = 3
        make(KIND_TRUE, 0, 0, 0) = 0
        tell(0, 1) = 1
        """;

    public static void main(String[] args) {
        RUNS.play("OPEN if the object is open", """
            new(3, 1, 8, 8)
            reopen() = OPEN
            reopen() = OPEN
            addMove(0, 1, 1) = OK
            reopen() = OPEN
            moves() = 0.1.1
            minimise() = 2
            reopen() = OK
            reopen() = OPEN
            reopen() = OPEN
            moves() = 0.1.1
            """);
        RUNS.play("the object becomes open", MINIMISED + """
            reopen() = OK
            blockCount() = OPEN
            blockOf(0..2) = OPEN
            leader(0..2) = OPEN
            quotientMove(0..2, 0..1, 0..2) = OPEN
            quotientMoveCount() = OPEN
            make(KIND_TRUE, 0, 0, 0) = OPEN
            tell(0, 1) = OPEN
            holds(0..1, 0..2) = OPEN
            """);
        RUNS.play("all formulas are forgotten", MINIMISED + """
            formulaCount() = 2
            reopen() = OK
            formulaCount() = 0
            holds(0, 0) = OPEN
            minimise() = 3
            formulaCount() = 0
            holds(0..1, 0..2) = BAD
            make(KIND_NOT, 0, 0, 0) = BAD
            """);
        RUNS.play("Q formulas are forgotten", MINIMISED + """
            tell(1, 0) = 2
            tell(1, 0) = 3
            tell(1, 0) = 4
            tell(1, 0) = 5
            tell(1, 0) = 6
            tell(1, 0) = 7
            tell(1, 0) = FULL
            reopen() = OK
            formulaCount() = 0
            minimise() = 3
            formulaCount() = 0
            tell(1, 0) = 0
            """);
        RUNS.play("the moves stay as they are", MINIMISED + """
            reopen() = OK
            moves() = 0.1.1 2.0.2
            """);
        RUNS.play("M moves stay as they are", """
            new(2, 1, 8, 8)
            addMove(0..1, 0..1, 0..1) = OK
            minimise() = 1
            reopen() = OK
            moveCount() = 8
            hasMove(0..1, 0..1, 0..1) = YES
            addMove(0..1, 0..1, 0..1) = PRESENT
            """);
        RUNS.play("afterwards moves can be added and removed again", MINIMISED + """
            reopen() = OK
            addMove(1, 1, 2) = OK
            addMove(1, 1, 2) = PRESENT
            removeMove(2, 0, 2) = OK
            removeMove(2, 0, 2) = ABSENT
            moves() = 0.1.1 1.1.2
            """);
        RUNS.play("a later minimise() goes by the moves there at that time", MINIMISED + """
            blocks() = 0 1 2
            reopen() = OK
            removeMove(2, 0, 2) = OK
            minimise() = 2
            blocks() = 0 1 1
            quotient() = 0.1.1
            reopen() = OK
            removeMove(0, 1, 1) = OK
            minimise() = 1
            blocks() = 0 0 0
            quotient() = none
            reopen() = OK
            addMove(2, 1, 0) = OK
            minimise() = 2
            blocks() = 0 0 1
            quotient() = 1.1.0
            reopen() = OK
            minimise() = 2
            blocks() = 0 0 1
            """);
        // The block of 1 and 2 is not stable by the new moves, but neither is it one of the new blocks.
        RUNS.play("nothing is left of the blocks before", """
            new(3, 1, 8, 8)
            addMove(0, 1, 0) = OK
            minimise() = 2
            blocks() = 0 1 1
            reopen() = OK
            addMove(1, 0, 0) = OK
            addMove(2, 1, 0) = OK
            minimise() = 1
            blocks() = 0 0 0
            quotient() = 0.1.0
            """);
        RUNS.play("formula numbers then begin at 0 again", MINIMISED + """
            reopen() = OK
            minimise() = 3
            tell(2, 0) = 0
            make(KIND_NOT, 0, 0, 0) = 1
            states(0) = 0 0 1
            states(1) = 1 1 0
            reopen() = OK
            minimise() = 3
            make(KIND_TRUE, 0, 0, 0) = 0
            """);
        RUNS.play("new formulas go by the moves there at that time", """
            new(2, 1, 8, 8)
            addMove(0, 0, 0) = OK
            minimise() = 2
            make(KIND_TRUE, 0, 0, 0) = 0
            make(KIND_DIV, 0, 0, 0) = 1
            states(1) = 1 0
            reopen() = OK
            removeMove(0, 0, 0) = OK
            addMove(1, 0, 1) = OK
            minimise() = 2
            make(KIND_TRUE, 0, 0, 0) = 0
            make(KIND_DIV, 0, 0, 0) = 1
            states(1) = 0 1
            """);
        RUNS.end();
    }
}
