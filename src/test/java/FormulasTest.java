/** Promises 13 to 16: making formulas, telling states apart, asking formulas. */
public final class FormulasTest {
    private static final Runs RUNS = new Runs();

    public static void main(String[] args) {
        promise13();
        promise14();
        promise15();
        promise16();
        RUNS.end();
    }

    private static void promise13() {
        RUNS.play("13, while open", """
            new(3, 1, 8, 8)
            make(KIND_TRUE, 0, 0, 0) = OPEN
            make(5, 0, 0, 0) = OPEN
            make(MIN, MAX, MIN, MAX) = OPEN
            """);
        RUNS.play("13, before the first formula", """
            new(3, 1, 8, 8)
            minimise() = 1
            make(KIND_NOT, 0, 0, 0) = BAD
            make(KIND_AND, 0, 0, 0) = BAD
            make(KIND_UNTIL, 0, 0, 0) = BAD
            make(KIND_DIV, 0, 0, 0) = BAD
            make(-1, 0, 0, 0) = BAD
            make(5, 0, 0, 0) = BAD
            formulaCount() = 0
            make(KIND_TRUE, MIN, MAX, -1) = 0
            """);
        RUNS.play("13, operands and labels", """
            new(3, 2, 8, 32)
            minimise() = 1
            make(KIND_TRUE, 0, 0, 0) = 0
            make(KIND_NOT, 1, 0, 0) = BAD
            make(KIND_NOT, -1, 0, 0) = BAD
            make(KIND_NOT, MIN, 0, 0) = BAD
            make(KIND_NOT, MAX, 0, 0) = BAD
            make(KIND_NOT, 0, MIN, MAX) = 1
            make(KIND_AND, 2, 0, 0) = BAD
            make(KIND_AND, 0, 0, 2) = BAD
            make(KIND_AND, -1, 0, 0) = BAD
            make(KIND_AND, 0, 0, -1) = BAD
            make(KIND_AND, 0, MAX, 1) = 2
            make(KIND_AND, 1, -1, 1) = 3
            make(KIND_UNTIL, 4, 0, 0) = BAD
            make(KIND_UNTIL, 0, 0, 4) = BAD
            make(KIND_UNTIL, -1, 0, 0) = BAD
            make(KIND_UNTIL, 0, 0, MIN) = BAD
            make(KIND_UNTIL, 0, 3, 0) = BAD
            make(KIND_UNTIL, 0, -1, 0) = BAD
            make(KIND_UNTIL, 0, MIN, 0) = BAD
            make(KIND_UNTIL, 0, MAX, 0) = BAD
            make(KIND_UNTIL, 0, 2, 0) = 4
            make(KIND_DIV, 5, 0, 0) = BAD
            make(KIND_DIV, -1, 0, 0) = BAD
            make(KIND_DIV, 0, -7, 99) = 5
            make(-1, 0, 0, 0) = BAD
            make(5, 0, 0, 0) = BAD
            make(MIN, 0, 0, 0) = BAD
            make(MAX, 0, 0, 0) = BAD
            formulaCount() = 6
            make(KIND_NOT, 0, 0, 0) = 6
            make(KIND_NOT, 0, 0, 0) = 7
            """);
        RUNS.play("13, a full object", """
            new(3, 1, 8, 8)
            addMove(0, 1, 1) = OK
            minimise() = 2
            make(KIND_TRUE, 0, 0, 0) = 0
            make(KIND_NOT, 0, 0, 0) = 1
            tell(0, 1) = 2
            make(KIND_TRUE, 0, 0, 0) = 3
            make(KIND_TRUE, 0, 0, 0) = 4
            make(KIND_TRUE, 0, 0, 0) = 5
            make(KIND_TRUE, 0, 0, 0) = 6
            make(KIND_NOT, 2, 0, 0) = 7
            make(KIND_TRUE, 0, 0, 0) = FULL
            make(KIND_NOT, 7, 0, 0) = FULL
            make(KIND_NOT, 8, 0, 0) = BAD
            make(KIND_UNTIL, 0, 2, 0) = BAD
            make(5, 0, 0, 0) = BAD
            formulaCount() = 8
            states(0) = 1 1 1
            states(1) = 0 0 0
            states(2) = 1 0 0
            states(7) = 0 1 1
            holds(8, 0) = BAD
            blocks() = 0 1 1
            """);
    }

    private static void promise14() {
        RUNS.play("14, while open", """
            new(3, 1, 8, 8)
            tell(0, 1) = OPEN
            tell(0, 0) = OPEN
            tell(MIN, MAX) = OPEN
            """);
        RUNS.play("14, wrong arguments and one block", """
            new(3, 1, 8, 8)
            addMove(0, 1, 1) = OK
            minimise() = 2
            tell(3, 0) = BAD
            tell(0, 3) = BAD
            tell(-1, 0) = BAD
            tell(0, -1) = BAD
            tell(-1, -1) = BAD
            tell(MIN, 0) = BAD
            tell(0, MAX) = BAD
            tell(1, 2) = SAME
            tell(2, 1) = SAME
            tell(0, 0) = SAME
            formulaCount() = 0
            """);
        RUNS.play("14, the block of the first state", """
            new(6, 1, 8, 8)
            addMove(0, 1, 1) = OK
            addMove(2, 0, 0) = OK
            addMove(3, 0, 3) = OK
            minimise() = 3
            blocks() = 0 1 0 2 1 1
            tell(0, 1) = 0
            tell(2, 3) = 1
            tell(1, 0) = 2
            tell(5, 3) = 3
            tell(3, 4) = 4
            tell(0, 1) = 5
            states(0) = 1 0 1 0 0 0
            states(1) = 1 0 1 0 0 0
            states(2) = 0 1 0 0 1 1
            states(3) = 0 1 0 0 1 1
            states(4) = 0 0 0 1 0 0
            states(5) = 1 0 1 0 0 0
            formulaCount() = 6
            make(KIND_NOT, 1, 0, 0) = 6
            states(6) = 0 1 0 1 1 1
            make(KIND_UNTIL, 0, 1, 2) = 7
            states(7) = 1 0 1 0 0 0
            tell(0, 1) = FULL
            tell(0, 2) = SAME
            tell(0, 6) = BAD
            formulaCount() = 8
            moveCount() = 3
            blocks() = 0 1 0 2 1 1
            """);
        RUNS.play("14, the same block by a formula of the five forms", """
            new(4, 2, 8, 16)
            addMove(0, 0, 1) = OK
            addMove(1, 1, 3) = OK
            addMove(2, 0, 2) = OK
            addMove(2, 1, 3) = OK
            minimise() = 3
            blocks() = 0 0 1 2
            tell(1, 2) = 0
            make(KIND_TRUE, 0, 0, 0) = 1
            make(KIND_UNTIL, 1, 1, 1) = 2
            make(KIND_DIV, 1, 0, 0) = 3
            make(KIND_NOT, 3, 0, 0) = 4
            make(KIND_AND, 2, 0, 4) = 5
            states(0) = 1 1 0 0
            states(5) = 1 1 0 0
            """);
    }

    private static void promise15() {
        RUNS.play("15, while open and wrong arguments", """
            new(3, 1, 8, 8)
            holds(0, 0) = OPEN
            holds(MIN, MAX) = OPEN
            minimise() = 1
            holds(0, 0) = BAD
            make(KIND_TRUE, 0, 0, 0) = 0
            holds(0, 0) = YES
            holds(1, 0) = BAD
            holds(-1, 0) = BAD
            holds(MIN, 0) = BAD
            holds(MAX, 0) = BAD
            holds(0, 3) = BAD
            holds(0, 32) = BAD
            holds(0, -1) = BAD
            holds(0, MIN) = BAD
            holds(0, MAX) = BAD
            """);
        RUNS.play("15, TRUE, NOT and AND", """
            new(12, 1, 8, 16)
            addMove(11, 1, 0) = OK
            addMove(10, 0, 10) = OK
            minimise() = 3
            make(KIND_TRUE, 0, 0, 0) = 0
            make(KIND_NOT, 0, 0, 0) = 1
            tell(0, 10) = 2
            tell(10, 0) = 3
            make(KIND_NOT, 2, 0, 0) = 4
            make(KIND_NOT, 3, 0, 0) = 5
            make(KIND_AND, 4, 0, 5) = 6
            make(KIND_AND, 4, 0, 1) = 7
            make(KIND_AND, 0, 0, 4) = 8
            states(0) = 1 1 1 1 1 1 1 1 1 1 1 1
            states(1) = 0 0 0 0 0 0 0 0 0 0 0 0
            states(2) = 1 1 1 1 1 1 1 1 1 1 0 0
            states(4) = 0 0 0 0 0 0 0 0 0 0 1 1
            states(6) = 0 0 0 0 0 0 0 0 0 0 0 1
            states(7) = 0 0 0 0 0 0 0 0 0 0 0 0
            states(8) = 0 0 0 0 0 0 0 0 0 0 1 1
            """);
        // A silent chain 4, 0, 1, 2 on which each step gives up a visible move.
        String chain = """
            new(6, 3, 16, 32)
            addMove(0, 0, 1) = OK
            addMove(1, 0, 2) = OK
            addMove(2, 1, 3) = OK
            addMove(1, 2, 1) = OK
            addMove(0, 3, 5) = OK
            addMove(4, 0, 0) = OK
            addMove(4, 3, 4) = OK
            minimise() = 5
            blocks() = 0 1 2 3 4 3
            make(KIND_TRUE, 0, 0, 0) = 0
            make(KIND_NOT, 0, 0, 0) = 1
            tell(0, 1) = 2
            tell(1, 0) = 3
            tell(2, 0) = 4
            tell(3, 0) = 5
            tell(4, 0) = 6
            """;
        RUNS.play("15, UNTIL by a visible label", chain + """
            make(KIND_UNTIL, 0, 1, 0) = 7
            states(7) = 1 1 1 0 1 0
            make(KIND_NOT, 3, 0, 0) = 8
            make(KIND_UNTIL, 8, 1, 0) = 9
            states(9) = 0 0 1 0 0 0
            make(KIND_NOT, 4, 0, 0) = 10
            make(KIND_UNTIL, 10, 1, 0) = 11
            states(11) = 0 0 0 0 0 0
            make(KIND_NOT, 6, 0, 0) = 12
            make(KIND_UNTIL, 12, 1, 5) = 13
            states(13) = 1 1 1 0 0 0
            make(KIND_NOT, 5, 0, 0) = 14
            make(KIND_UNTIL, 14, 1, 5) = 15
            states(15) = 1 1 1 0 1 0
            make(KIND_UNTIL, 0, 1, 14) = 16
            states(16) = 0 0 0 0 0 0
            make(KIND_UNTIL, 1, 1, 0) = 17
            states(17) = 0 0 0 0 0 0
            make(KIND_UNTIL, 0, 3, 0) = 18
            states(18) = 1 0 0 0 1 0
            make(KIND_UNTIL, 3, 2, 3) = 19
            states(19) = 0 1 0 0 0 0
            """);
        RUNS.play("15, UNTIL by the silent label", chain + """
            make(KIND_UNTIL, 1, 0, 4) = 7
            states(7) = 0 0 1 0 0 0
            make(KIND_UNTIL, 3, 0, 4) = 8
            states(8) = 0 1 1 0 0 0
            make(KIND_UNTIL, 2, 0, 4) = 9
            states(9) = 0 0 1 0 0 0
            make(KIND_UNTIL, 0, 0, 4) = 10
            states(10) = 1 1 1 0 1 0
            make(KIND_UNTIL, 0, 0, 5) = 11
            states(11) = 0 0 0 1 0 1
            make(KIND_UNTIL, 0, 0, 1) = 12
            states(12) = 0 0 0 0 0 0
            make(KIND_NOT, 2, 0, 0) = 13
            make(KIND_UNTIL, 13, 0, 2) = 14
            states(14) = 1 0 0 0 1 0
            make(KIND_UNTIL, 13, 0, 3) = 15
            states(15) = 0 1 0 0 0 0
            make(KIND_UNTIL, 1, 0, 0) = 16
            states(16) = 1 1 1 1 1 1
            """);
        RUNS.play("15, a silent path as long as can be", """
            new(12, 1, 32, 8)
            addMove(11, 0, 10) = OK
            addMove(10, 0, 9) = OK
            addMove(9, 0, 8) = OK
            addMove(8, 0, 7) = OK
            addMove(7, 0, 6) = OK
            addMove(6, 0, 5) = OK
            addMove(5, 0, 4) = OK
            addMove(4, 0, 3) = OK
            addMove(3, 0, 2) = OK
            addMove(2, 0, 1) = OK
            addMove(1, 0, 0) = OK
            addMove(0, 1, 0) = OK
            minimise() = 1
            make(KIND_TRUE, 0, 0, 0) = 0
            make(KIND_UNTIL, 0, 1, 0) = 1
            make(KIND_DIV, 0, 0, 0) = 2
            states(1) = 1 1 1 1 1 1 1 1 1 1 1 1
            states(2) = 0 0 0 0 0 0 0 0 0 0 0 0
            reopen() = OK
            removeMove(0, 1, 0) = OK
            addMove(0, 0, 11) = OK
            minimise() = 1
            make(KIND_TRUE, 0, 0, 0) = 0
            make(KIND_DIV, 0, 0, 0) = 1
            make(KIND_UNTIL, 0, 1, 0) = 2
            states(1) = 1 1 1 1 1 1 1 1 1 1 1 1
            states(2) = 0 0 0 0 0 0 0 0 0 0 0 0
            """);
        RUNS.play("15, DIV", """
            new(6, 1, 16, 16)
            addMove(0, 0, 1) = OK
            addMove(1, 0, 2) = OK
            addMove(2, 0, 1) = OK
            addMove(2, 1, 5) = OK
            addMove(3, 0, 3) = OK
            addMove(4, 0, 5) = OK
            addMove(5, 1, 5) = OK
            addMove(0, 0, 3) = OK
            minimise() = 4
            blocks() = 0 1 1 2 3 3
            make(KIND_TRUE, 0, 0, 0) = 0
            make(KIND_DIV, 0, 0, 0) = 1
            states(1) = 1 1 1 1 0 0
            tell(1, 0) = 2
            make(KIND_DIV, 2, 0, 0) = 3
            states(3) = 0 1 1 0 0 0
            make(KIND_NOT, 2, 0, 0) = 4
            make(KIND_DIV, 4, 0, 0) = 5
            states(5) = 1 0 0 1 0 0
            tell(0, 1) = 6
            make(KIND_DIV, 6, 0, 0) = 7
            states(7) = 0 0 0 0 0 0
            tell(3, 0) = 8
            make(KIND_NOT, 8, 0, 0) = 9
            make(KIND_AND, 4, 0, 9) = 10
            make(KIND_DIV, 10, 0, 0) = 11
            states(11) = 0 0 0 0 0 0
            """);
    }

    private static void promise16() {
        RUNS.play("16, the count of formulas", """
            new(3, 1, 8, 8)
            formulaCount() = 0
            addMove(0, 1, 1) = OK
            minimise() = 2
            formulaCount() = 0
            make(KIND_TRUE, 0, 0, 0) = 0
            formulaCount() = 1
            tell(0, 1) = 1
            formulaCount() = 2
            tell(1, 2) = SAME
            make(KIND_NOT, 2, 0, 0) = BAD
            holds(1, 0) = YES
            formulaCount() = 2
            reopen() = OK
            formulaCount() = 0
            minimise() = 2
            formulaCount() = 0
            tell(1, 0) = 0
            formulaCount() = 1
            """);
    }
}
