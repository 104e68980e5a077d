/** Promise 3: removing a move. */
public final class Promise03Test {
    private static final Runs RUNS = new Runs();

    public static void main(String[] args) {
        closed();
        bad();
        absent();
        ok();
        RUNS.end();
    }

    private static void closed() {
        RUNS.play("CLOSED if the object is minimised, whatever the arguments are", """
            new(3, 1, 8, 8)
            addMove(0, 1, 1) = OK
            minimise() = 2
            removeMove(0, 1, 1) = CLOSED
            removeMove(0..2, 0..1, 0..2) = CLOSED
            removeMove(ANY, ANY, ANY) = CLOSED
            moves() = 0.1.1
            """);
        RUNS.play("CLOSED also when there are no moves", """
            new(3, 1, 8, 8)
            minimise() = 1
            removeMove(0..2, 0..1, 0..2) = CLOSED
            removeMove(ANY, ANY, ANY) = CLOSED
            """);
        RUNS.play("CLOSED ends with reopen()", """
            new(3, 1, 8, 8)
            addMove(0, 1, 1) = OK
            minimise() = 2
            removeMove(0, 1, 1) = CLOSED
            reopen() = OK
            removeMove(0, 1, 1) = OK
            minimise() = 1
            removeMove(0, 1, 1) = CLOSED
            """);
    }

    private static void bad() {
        String moves = """
            new(5, 2, 32, 8)
            addMove(0..4, 0, 0..4) = OK
            """;
        RUNS.play("BAD if from is not in 0 .. N-1", moves + """
            removeMove(<0, 0..2, 0..4) = BAD
            removeMove(>4, 0..2, 0..4) = BAD
            moveCount() = 25
            """);
        RUNS.play("BAD if to is not in 0 .. N-1", moves + """
            removeMove(0..4, 0..2, <0) = BAD
            removeMove(0..4, 0..2, >4) = BAD
            moveCount() = 25
            """);
        RUNS.play("BAD if label is not in 0 .. L", moves + """
            removeMove(0..4, <0, 0..4) = BAD
            removeMove(0..4, >2, 0..4) = BAD
            moveCount() = 25
            """);
        RUNS.play("BAD comes before ABSENT, also when there are no moves", """
            new(5, 2, 16, 8)
            removeMove(<0, 0, 0) = BAD
            removeMove(>4, 0, 0) = BAD
            removeMove(0, <0, 0) = BAD
            removeMove(0, >2, 0) = BAD
            removeMove(0, 0, <0) = BAD
            removeMove(0, 0, >4) = BAD
            removeMove(-1, 3, 5) = BAD
            """);
        RUNS.play("no BAD at the ends of the ranges", """
            new(12, 3, 16, 8)
            addMove(0, 0, 0) = OK
            addMove(11, 3, 11) = OK
            removeMove(>11, 3, 11) = BAD
            removeMove(11, >3, 11) = BAD
            removeMove(11, 3, >11) = BAD
            removeMove(0, 0, 0) = OK
            removeMove(11, 3, 11) = OK
            moves() = none
            """);
    }

    private static void absent() {
        RUNS.play("ABSENT if the move (from, label, to) is not there", """
            new(3, 1, 8, 8)
            addMove(0, 1, 2) = OK
            removeMove(2, 1, 0) = ABSENT
            removeMove(0, 0, 2) = ABSENT
            removeMove(0, 1, 1) = ABSENT
            removeMove(1, 1, 2) = ABSENT
            moves() = 0.1.2
            removeMove(0, 1, 2) = OK
            removeMove(0, 1, 2) = ABSENT
            moves() = none
            """);
        RUNS.play("ABSENT always with good arguments when there are no moves", """
            new(12, 3, 32, 8)
            removeMove(0..11, 0..3, 0..11) = ABSENT
            moves() = none
            addMove(3, 2, 1) = OK
            removeMove(3, 2, 1) = OK
            removeMove(0..11, 0..3, 0..11) = ABSENT
            """);
        RUNS.play("ABSENT also when there are M moves", """
            new(3, 1, 8, 8)
            addMove(0..1, 0..1, 0..1) = OK
            removeMove(2, 0..1, 0..2) = ABSENT
            removeMove(0..2, 0..1, 2) = ABSENT
            moveCount() = 8
            """);
    }

    private static void ok() {
        RUNS.play("after OK there is one move fewer and all other moves stay", """
            new(12, 3, 16, 8)
            addMove(0, 1, 1) = OK
            addMove(1, 1, 0) = OK
            addMove(0, 2, 1) = OK
            addMove(0, 1, 2) = OK
            addMove(11, 3, 11) = OK
            addMove(0, 0, 0) = OK
            removeMove(0, 1, 1) = OK
            moves() = 1.1.0 0.2.1 0.1.2 11.3.11 0.0.0
            removeMove(0, 0, 0) = OK
            moves() = 1.1.0 0.2.1 0.1.2 11.3.11
            removeMove(11, 3, 11) = OK
            moves() = 1.1.0 0.2.1 0.1.2
            removeMove(0, 2, 1) = OK
            moves() = 1.1.0 0.1.2
            removeMove(1, 1, 0) = OK
            moves() = 0.1.2
            removeMove(0, 1, 2) = OK
            moves() = none
            """);
        RUNS.play("after OK the object stays open", """
            new(3, 1, 8, 8)
            addMove(0, 1, 1) = OK
            addMove(0, 0, 0) = OK
            removeMove(0, 1, 1) = OK
            blockCount() = OPEN
            removeMove(0, 0, 0) = OK
            reopen() = OPEN
            addMove(0, 1, 1) = OK
            """);
        RUNS.play("the freed room can be used by another move", """
            new(8, 1, 8, 8)
            addMove(0..7, 1, 0) = OK
            addMove(7, 1, 7) = FULL
            removeMove(3, 1, 0) = OK
            addMove(7, 1, 7) = OK
            addMove(3, 1, 0) = FULL
            removeMove(0, 1, 0) = OK
            removeMove(1, 1, 0) = OK
            addMove(0, 0, 0) = OK
            addMove(3, 1, 0) = OK
            addMove(1, 1, 0) = FULL
            moves() = 2.1.0 4.1.0 5.1.0 6.1.0 7.1.0 7.1.7 0.0.0 3.1.0
            """);
        RUNS.play("a refused call frees no room", """
            new(8, 1, 8, 8)
            addMove(0..7, 1, 0) = OK
            removeMove(7, 1, 7) = ABSENT
            removeMove(8, 1, 0) = BAD
            addMove(7, 1, 7) = FULL
            """);
    }
}
