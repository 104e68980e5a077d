/** Promise 6: minimising, and which states share a block. */
public final class Promise06Test {
    private static final Runs RUNS = new Runs();

    public static void main(String[] args) {
        closed();
        becomesMinimised();
        answersTheBlocks();
        conditionOne();
        conditionTwo();
        coarsest();
        numbering();
        staysTheSame();
        RUNS.end();
    }

    private static void closed() {
        RUNS.play("CLOSED if the object is minimised", """
            new(3, 1, 8, 8)
            addMove(0, 1, 1) = OK
            minimise() = 2
            minimise() = CLOSED
            minimise() = CLOSED
            blocks() = 0 1 1
            make(KIND_TRUE, 0, 0, 0) = 0
            minimise() = CLOSED
            formulaCount() = 1
            states(0) = 1 1 1
            moves() = 0.1.1
            reopen() = OK
            minimise() = 2
            minimise() = CLOSED
            """);
    }

    private static void becomesMinimised() {
        RUNS.play("the object becomes minimised", """
            new(3, 1, 8, 8)
            blockCount() = OPEN
            minimise() = 1
            blockCount() = 1
            addMove(0, 1, 1) = CLOSED
            reopen() = OK
            """);
        RUNS.play("with the blocks of the moves now there", """
            new(3, 1, 8, 8)
            minimise() = 1
            reopen() = OK
            addMove(0, 1, 1) = OK
            minimise() = 2
            blocks() = 0 1 1
            reopen() = OK
            addMove(1, 1, 2) = OK
            minimise() = 3
            blocks() = 0 1 2
            reopen() = OK
            removeMove(0, 1, 1) = OK
            minimise() = 2
            blocks() = 0 1 0
            reopen() = OK
            removeMove(1, 1, 2) = OK
            minimise() = 1
            blocks() = 0 0 0
            """);
        RUNS.play("and no formula", """
            new(3, 1, 8, 8)
            minimise() = 1
            formulaCount() = 0
            make(KIND_TRUE, 0, 0, 0) = 0
            reopen() = OK
            minimise() = 1
            formulaCount() = 0
            holds(0, 0) = BAD
            """);
        RUNS.play("the moves stay as they are", """
            new(4, 2, 8, 8)
            addMove(0, 0, 1) = OK
            addMove(1, 0, 0) = OK
            addMove(1, 0, 1) = OK
            addMove(0, 2, 3) = OK
            addMove(1, 2, 2) = OK
            minimise() = 2
            moves() = 0.0.1 1.0.0 1.0.1 0.2.3 1.2.2
            reopen() = OK
            moves() = 0.0.1 1.0.0 1.0.1 0.2.3 1.2.2
            """);
    }

    private static void answersTheBlocks() {
        RUNS.play("the answer is the number of blocks, at least 1", """
            new(2, 1, 8, 8)
            minimise() = 1
            blocks() = 0 0
            new(12, 3, 32, 32)
            minimise() = 1
            blocks() = 0 0 0 0 0 0 0 0 0 0 0 0
            """);
        RUNS.play("the answer is the number of blocks, at most N", """
            new(2, 1, 8, 8)
            addMove(0, 1, 1) = OK
            minimise() = 2
            blocks() = 0 1
            new(12, 1, 32, 8)
            addMove(0, 1, 1) = OK
            addMove(1, 1, 2) = OK
            addMove(2, 1, 3) = OK
            addMove(3, 1, 4) = OK
            addMove(4, 1, 5) = OK
            addMove(5, 1, 6) = OK
            addMove(6, 1, 7) = OK
            addMove(7, 1, 8) = OK
            addMove(8, 1, 9) = OK
            addMove(9, 1, 10) = OK
            addMove(10, 1, 11) = OK
            minimise() = 12
            blocks() = 0 1 2 3 4 5 6 7 8 9 10 11
            """);
        RUNS.play("N blocks, the last one found behind eleven others", """
            new(12, 1, 32, 8)
            addMove(11, 1, 10) = OK
            addMove(10, 1, 9) = OK
            addMove(9, 1, 8) = OK
            addMove(8, 1, 7) = OK
            addMove(7, 1, 6) = OK
            addMove(6, 1, 5) = OK
            addMove(5, 1, 4) = OK
            addMove(4, 1, 3) = OK
            addMove(3, 1, 2) = OK
            addMove(2, 1, 1) = OK
            addMove(1, 1, 0) = OK
            minimise() = 12
            blocks() = 0 1 2 3 4 5 6 7 8 9 10 11
            """);
        RUNS.play("states without any move count like all others", """
            new(6, 1, 8, 8)
            addMove(1, 1, 2) = OK
            addMove(4, 0, 5) = OK
            minimise() = 2
            blocks() = 0 1 0 0 0 0
            """);
    }

    private static void conditionOne() {
        RUNS.play("(1) for every label a", """
            new(6, 3, 8, 8)
            addMove(0, 1, 5) = OK
            addMove(1, 2, 5) = OK
            addMove(2, 3, 5) = OK
            addMove(3, 3, 5) = OK
            minimise() = 4
            blocks() = 0 1 2 2 3 3
            """);
        RUNS.play("(1) for every class C", """
            new(5, 2, 8, 8)
            addMove(0, 1, 2) = OK
            addMove(1, 1, 3) = OK
            addMove(3, 2, 3) = OK
            addMove(4, 1, 2) = OK
            addMove(4, 1, 3) = OK
            minimise() = 5
            blocks() = 0 1 2 3 4
            """);
        RUNS.play("(1) if there is a silent path from s", """
            new(6, 1, 8, 8)
            addMove(0, 0, 1) = OK
            addMove(1, 0, 2) = OK
            addMove(2, 1, 3) = OK
            addMove(4, 1, 5) = OK
            minimise() = 2
            blocks() = 0 0 0 1 0 1
            """);
        RUNS.play("(1) the silent path can be a single state", """
            new(3, 1, 8, 8)
            addMove(1, 1, 2) = OK
            minimise() = 2
            blocks() = 0 1 0
            """);
        RUNS.play("(1) the silent path can go through all states", """
            new(12, 1, 32, 8)
            addMove(11, 0, 10) = OK
            addMove(10, 0, 9) = OK
            addMove(9, 0, 8) = OK
            addMove(8, 0, 7) = OK
            addMove(7, 0, 6) = OK
            addMove(6, 0, 5) = OK
            addMove(5, 0, 4) = OK
            addMove(4, 0, 3) = OK
            addMove(3, 0, 2) = OK
            addMove(2, 0, 1) = OK
            addMove(1, 0, 0) = OK
            addMove(0, 1, 11) = OK
            minimise() = 1
            quotient() = 0.1.0
            """);
        // Seen without the words on K, 0 and 2 do the same: 0 does label 1 by way of 1.
        RUNS.play("(1) all of whose states (s and the last one too) are in K", """
            new(4, 2, 8, 8)
            addMove(0, 0, 1) = OK
            addMove(0, 2, 3) = OK
            addMove(1, 1, 3) = OK
            addMove(2, 0, 1) = OK
            addMove(2, 2, 3) = OK
            addMove(2, 1, 3) = OK
            minimise() = 4
            blocks() = 0 1 2 3
            """);
        RUNS.play("(1) the path is made of silent moves alone", """
            new(4, 2, 8, 8)
            addMove(0, 2, 1) = OK
            addMove(1, 1, 3) = OK
            addMove(1, 2, 1) = OK
            addMove(2, 1, 3) = OK
            addMove(2, 2, 1) = OK
            minimise() = 3
            blocks() = 0 1 1 2
            """);
        RUNS.play("(1) a visible label counts also when C is K itself", """
            new(4, 1, 8, 8)
            addMove(0, 1, 0) = OK
            addMove(1, 1, 2) = OK
            addMove(2, 1, 1) = OK
            minimise() = 2
            blocks() = 0 0 0 1
            """);
        RUNS.play("(1) the silent label counts only when C is different from K", """
            new(4, 1, 8, 8)
            addMove(0, 0, 1) = OK
            addMove(0, 0, 2) = OK
            addMove(2, 0, 3) = OK
            minimise() = 1
            blocks() = 0 0 0 0
            """);
        RUNS.play("(1) the silent label counts when C is different from K", """
            new(4, 1, 8, 8)
            addMove(0, 0, 1) = OK
            addMove(0, 1, 2) = OK
            addMove(3, 1, 2) = OK
            minimise() = 3
            blocks() = 0 1 1 2
            """);
    }

    private static void conditionTwo() {
        RUNS.play("(2) one silent move from a state to itself", """
            new(3, 1, 8, 8)
            addMove(1, 0, 1) = OK
            minimise() = 2
            blocks() = 0 1 0
            """);
        RUNS.play("(2) round a cycle", """
            new(5, 1, 8, 8)
            addMove(1, 0, 2) = OK
            addMove(2, 0, 4) = OK
            addMove(4, 0, 1) = OK
            minimise() = 2
            blocks() = 0 1 1 0 1
            """);
        RUNS.play("(2) round a cycle of all states", """
            new(12, 1, 32, 8)
            addMove(0, 0, 1) = OK
            addMove(1, 0, 2) = OK
            addMove(2, 0, 3) = OK
            addMove(3, 0, 4) = OK
            addMove(4, 0, 5) = OK
            addMove(5, 0, 6) = OK
            addMove(6, 0, 7) = OK
            addMove(7, 0, 8) = OK
            addMove(8, 0, 9) = OK
            addMove(9, 0, 10) = OK
            addMove(10, 0, 11) = OK
            minimise() = 1
            quotient() = none
            reopen() = OK
            addMove(11, 0, 0) = OK
            minimise() = 1
            quotient() = 0.0.0
            """);
        RUNS.play("(2) a cycle and a silent move of a state to itself are alike", """
            new(5, 1, 8, 8)
            addMove(0, 0, 0) = OK
            addMove(1, 0, 2) = OK
            addMove(2, 0, 1) = OK
            addMove(3, 0, 1) = OK
            minimise() = 2
            blocks() = 0 0 0 0 1
            """);
        RUNS.play("(2) a path that leads into the cycle is infinite too", """
            new(6, 1, 8, 8)
            addMove(5, 0, 4) = OK
            addMove(4, 0, 3) = OK
            addMove(3, 0, 3) = OK
            addMove(2, 0, 1) = OK
            minimise() = 2
            blocks() = 0 0 0 1 1 1
            """);
        // 5 can choose between the cycle and an end, so it is in neither block.
        RUNS.play("(2) a way out of the cycle's class makes a class of its own", """
            new(6, 1, 16, 8)
            addMove(1, 0, 2) = OK
            addMove(2, 0, 3) = OK
            addMove(3, 0, 1) = OK
            addMove(4, 0, 1) = OK
            addMove(5, 0, 1) = OK
            addMove(5, 0, 0) = OK
            minimise() = 3
            blocks() = 0 1 1 1 1 2
            """);
        RUNS.play("(2) with all its states in K", """
            new(4, 1, 8, 8)
            addMove(0, 0, 1) = OK
            addMove(0, 1, 3) = OK
            addMove(1, 0, 1) = OK
            addMove(2, 0, 2) = OK
            addMove(2, 0, 1) = OK
            addMove(2, 1, 3) = OK
            minimise() = 4
            blocks() = 0 1 2 3
            quotientMove(0, 0, 0) = NO
            quotientMove(2, 0, 2) = YES
            """);
        RUNS.play("(2) a cycle with a visible move in it is no silent path", """
            new(3, 1, 8, 8)
            addMove(0, 0, 1) = OK
            addMove(1, 1, 0) = OK
            addMove(2, 1, 2) = OK
            minimise() = 1
            quotient() = 0.1.0
            """);
        RUNS.play("(2) an infinite path counts also for states that do the same visible moves", """
            new(4, 1, 8, 8)
            addMove(0, 1, 3) = OK
            addMove(1, 1, 3) = OK
            addMove(1, 0, 1) = OK
            addMove(2, 0, 1) = OK
            minimise() = 3
            blocks() = 0 1 1 2
            """);
    }

    private static void coarsest() {
        RUNS.play("two states share a class exactly if they share a class in some stable partition", """
            new(6, 2, 8, 8)
            addMove(0, 1, 1) = OK
            addMove(1, 2, 2) = OK
            addMove(3, 1, 4) = OK
            addMove(4, 2, 5) = OK
            minimise() = 3
            blocks() = 0 1 2 0 1 2
            """);
        RUNS.play("the coarsest: visible cycles of two and of three states are alike", """
            new(5, 1, 8, 8)
            addMove(0, 1, 1) = OK
            addMove(1, 1, 0) = OK
            addMove(2, 1, 3) = OK
            addMove(3, 1, 4) = OK
            addMove(4, 1, 2) = OK
            minimise() = 1
            quotient() = 0.1.0
            """);
    }

    private static void numbering() {
        RUNS.play("numbered in ascending order of their least states", """
            new(8, 3, 8, 8)
            addMove(7, 1, 7) = OK
            addMove(1, 1, 1) = OK
            addMove(2, 2, 2) = OK
            addMove(6, 2, 6) = OK
            addMove(3, 3, 3) = OK
            addMove(5, 3, 5) = OK
            minimise() = 4
            blocks() = 0 1 2 3 0 3 2 1
            leader(0) = 0
            leader(1) = 1
            leader(2) = 2
            leader(3) = 3
            new(8, 3, 8, 8)
            addMove(1, 3, 1) = OK
            addMove(2, 2, 2) = OK
            addMove(3, 1, 3) = OK
            addMove(6, 0, 6) = OK
            minimise() = 5
            blocks() = 0 1 2 3 0 0 4 0
            """);
        RUNS.play("state 0 is always in block 0", """
            new(3, 1, 8, 8)
            minimise() = 1
            blockOf(0) = 0
            reopen() = OK
            addMove(0, 1, 0) = OK
            minimise() = 2
            blocks() = 0 1 1
            reopen() = OK
            addMove(1, 1, 2) = OK
            minimise() = 3
            blocks() = 0 1 2
            reopen() = OK
            removeMove(0, 1, 0) = OK
            addMove(0, 0, 0) = OK
            removeMove(1, 1, 2) = OK
            minimise() = 2
            blocks() = 0 1 1
            """);
        RUNS.play("the leader of a block is its least state", """
            new(6, 1, 8, 8)
            addMove(5, 1, 0) = OK
            addMove(3, 1, 0) = OK
            addMove(4, 0, 3) = OK
            minimise() = 2
            blocks() = 0 0 0 1 1 1
            leader(0) = 0
            leader(1) = 3
            """);
    }

    private static void staysTheSame() {
        RUNS.play("while the object stays minimised, its moves, blocks, block numbers and quotient stay the same", """
            new(4, 1, 8, 8)
            addMove(1, 0, 1) = OK
            addMove(3, 1, 1) = OK
            minimise() = 3
            addMove(0, 1, 0) = CLOSED
            removeMove(3, 1, 1) = CLOSED
            minimise() = CLOSED
            make(KIND_TRUE, 0, 0, 0) = 0
            tell(3, 0) = 1
            make(KIND_UNTIL, 0, 1, 1) = 2
            make(KIND_DIV, 0, 0, 0) = 3
            tell(0, 2) = SAME
            holds(3, 1) = YES
            blockCount() = 3
            blocks() = 0 1 0 2
            moves() = 1.0.1 3.1.1
            quotient() = 1.0.1 2.1.1
            """);
    }
}
