/** The opening section of the document, sentence by sentence. */
public final class WhatItIsTest {
    private static final Runs RUNS = new Runs();

    public static void main(String[] args) {
        statesLabelsMoves();
        openAndMinimised();
        silentPaths();
        orderForMoves();
        orderForBlocks();
        orderForFormulas();
        RUNS.end();
    }

    private static void statesLabelsMoves() {
        RUNS.play("the states are the numbers 0 .. N-1, the labels the numbers 0 .. L", """
            new(3, 2, 32, 8)
            addMove(0..2, 0..2, 0..2) = OK
            addMove(3, 0, 0) = BAD
            addMove(0, 3, 0) = BAD
            addMove(0, 0, 3) = BAD
            moveCount() = 27
            """);
        RUNS.play("label 0 is silent", """
            new(2, 3, 8, 8)
            addMove(0, 0, 1) = OK
            minimise() = 1
            """);
        for (int label = 1; label <= 3; label++) {
            RUNS.play("the labels 1 .. L are visible", """
                new(2, 3, 8, 8)
                addMove(0, LABEL, 1) = OK
                minimise() = 2
                quotient() = 0.LABEL.1
                """.replace("LABEL", Integer.toString(label)));
        }
        RUNS.play("a move leads from state s by label a to state t; s = t is allowed", """
            new(2, 1, 8, 8)
            addMove(0, 1, 1) = OK
            hasMove(1, 1, 0) = NO
            addMove(1, 1, 1) = OK
            moves() = 0.1.1 1.1.1
            """);
        RUNS.play("the system is a set of moves, at most M of them", """
            new(3, 1, 8, 8)
            addMove(0..1, 0..1, 0..1) = OK
            addMove(0..1, 0..1, 0..1) = PRESENT
            addMove(2, 0..1, 0..2) = FULL
            moveCount() = 8
            removeMove(0..1, 0..1, 0..1) = OK
            moveCount() = 0
            """);
    }

    private static void openAndMinimised() {
        RUNS.play("open: moves can be added and removed", """
            new(2, 1, 8, 8)
            addMove(0, 1, 1) = OK
            removeMove(0, 1, 1) = OK
            blockCount() = OPEN
            """);
        RUNS.play("minimised: the moves are fixed; blocks and formulas can be asked", """
            new(2, 1, 8, 8)
            addMove(0, 1, 1) = OK
            minimise() = 2
            addMove(1, 1, 1) = CLOSED
            removeMove(0, 1, 1) = CLOSED
            blocks() = 0 1
            tell(0, 1) = 0
            states(0) = 1 0
            moves() = 0.1.1
            """);
        RUNS.play("an open object never has formulas", """
            new(2, 1, 8, 8)
            formulaCount() = 0
            make(KIND_TRUE, 0, 0, 0) = OPEN
            formulaCount() = 0
            minimise() = 1
            make(KIND_TRUE, 0, 0, 0) = 0
            reopen() = OK
            formulaCount() = 0
            """);
    }

    private static void silentPaths() {
        RUNS.play("with n = 0 a silent path is a single state and needs no move", """
            new(3, 1, 8, 8)
            addMove(0, 1, 1) = OK
            minimise() = 2
            make(KIND_TRUE, 0, 0, 0) = 0
            make(KIND_UNTIL, 0, 1, 0) = 1
            states(1) = 1 0 0
            """);
        RUNS.play("a single state without a silent move is no infinite silent path", """
            new(3, 1, 8, 8)
            minimise() = 1
            make(KIND_TRUE, 0, 0, 0) = 0
            make(KIND_DIV, 0, 0, 0) = 1
            states(1) = 0 0 0
            """);
        RUNS.play("an infinite silent path may go round a cycle; states may recur", """
            new(3, 1, 8, 8)
            addMove(0, 0, 1) = OK
            addMove(1, 0, 0) = OK
            minimise() = 2
            blocks() = 0 0 1
            quotient() = 0.0.0
            make(KIND_TRUE, 0, 0, 0) = 0
            make(KIND_DIV, 0, 0, 0) = 1
            states(1) = 1 1 0
            """);
        RUNS.play("one silent move from a state to itself is a cycle", """
            new(3, 1, 8, 8)
            addMove(0, 0, 0) = OK
            minimise() = 2
            blocks() = 0 1 1
            quotient() = 0.0.0
            make(KIND_TRUE, 0, 0, 0) = 0
            make(KIND_DIV, 0, 0, 0) = 1
            states(1) = 1 0 0
            """);
    }

    // In each of these runs all the later conditions apply as well as the first one.
    private static void orderForMoves() {
        String full = """
            new(3, 1, 8, 8)
            addMove(0..1, 0..1, 0..1) = OK
            """;
        RUNS.play("the first refusal that applies gives the answer, addMove", full + """
            addMove(0, 0, 0) = PRESENT
            addMove(2, 0, 0) = FULL
            addMove(3, 0, 0) = BAD
            addMove(0, 2, 0) = BAD
            addMove(0, 0, -1) = BAD
            minimise() = 2
            addMove(0, 0, 0) = CLOSED
            addMove(2, 0, 0) = CLOSED
            addMove(3, 0, 0) = CLOSED
            """);
        RUNS.play("the first refusal that applies gives the answer, removeMove", full + """
            removeMove(2, 0, 0) = ABSENT
            removeMove(3, 0, 0) = BAD
            removeMove(0, 2, 0) = BAD
            removeMove(0, 0, -1) = BAD
            minimise() = 2
            removeMove(0, 0, 0) = CLOSED
            removeMove(2, 0, 0) = CLOSED
            removeMove(3, 0, 0) = CLOSED
            """);
    }

    private static void orderForBlocks() {
        RUNS.play("the first refusal that applies gives the answer, blockOf, leader and quotientMove", """
            new(3, 1, 8, 8)
            blockOf(3) = OPEN
            blockOf(-1) = OPEN
            leader(3) = OPEN
            leader(-1) = OPEN
            quotientMove(3, 0, 0) = OPEN
            quotientMove(0, 2, 0) = OPEN
            quotientMove(0, 0, -1) = OPEN
            minimise() = 1
            blockOf(3) = BAD
            leader(1) = BAD
            quotientMove(1, 0, 0) = BAD
            """);
    }

    private static void orderForFormulas() {
        String full = """
            new(3, 1, 8, 8)
            addMove(0, 1, 1) = OK
            minimise() = 2
            tell(0, 1) = 0
            tell(0, 1) = 1
            tell(0, 1) = 2
            tell(0, 1) = 3
            tell(0, 1) = 4
            tell(0, 1) = 5
            tell(0, 1) = 6
            tell(0, 1) = 7
            """;
        RUNS.play("the first refusal that applies gives the answer, make", full + """
            make(KIND_TRUE, 0, 0, 0) = FULL
            make(KIND_NOT, 8, 0, 0) = BAD
            make(KIND_AND, 0, 0, 8) = BAD
            make(KIND_UNTIL, 0, 2, 0) = BAD
            make(5, 0, 0, 0) = BAD
            make(5, 8, 2, 8) = BAD
            reopen() = OK
            make(KIND_TRUE, 0, 0, 0) = OPEN
            make(KIND_NOT, 8, 0, 0) = OPEN
            make(5, 8, 2, 8) = OPEN
            """);
        RUNS.play("the first refusal that applies gives the answer, tell", full + """
            tell(0, 1) = FULL
            tell(1, 2) = SAME
            tell(0, 0) = SAME
            tell(3, 3) = BAD
            tell(0, 3) = BAD
            reopen() = OK
            tell(0, 1) = OPEN
            tell(1, 2) = OPEN
            tell(3, 3) = OPEN
            """);
        RUNS.play("the first refusal that applies gives the answer, holds", full + """
            holds(8, 0) = BAD
            holds(0, 3) = BAD
            reopen() = OK
            holds(0, 0) = OPEN
            holds(8, 0) = OPEN
            holds(0, 3) = OPEN
            """);
    }
}
