/** Promise 2: adding a move. */
public final class Promise02Test {
    private static final Runs RUNS = new Runs();

    private static final String FULL_OBJECT = """
        new(3, 1, 8, 8)
        addMove(0..2, 0, 0..1) = OK
        addMove(0..1, 0, 2) = OK
        """;
    private static final String ITS_MOVES =
        "moves() = 0.0.0 1.0.0 2.0.0 0.0.1 1.0.1 2.0.1 0.0.2 1.0.2\n";

    public static void main(String[] args) {
        closed();
        bad();
        present();
        full();
        ok();
        RUNS.end();
    }

    private static void closed() {
        RUNS.play("CLOSED if the object is minimised, whatever the arguments are", """
            new(3, 1, 8, 8)
            addMove(0, 1, 1) = OK
            minimise() = 2
            addMove(0, 1, 1) = CLOSED
            addMove(0..2, 0..1, 0..2) = CLOSED
            addMove(ANY, ANY, ANY) = CLOSED
            moves() = 0.1.1
            """);
        RUNS.play("CLOSED also when there are M moves", FULL_OBJECT + """
            minimise() = 1
            addMove(0..2, 0..1, 0..2) = CLOSED
            addMove(ANY, ANY, ANY) = CLOSED
            """ + ITS_MOVES);
        RUNS.play("CLOSED ends with reopen()", """
            new(3, 1, 8, 8)
            minimise() = 1
            addMove(0, 1, 1) = CLOSED
            reopen() = OK
            addMove(0, 1, 1) = OK
            minimise() = 2
            addMove(0, 1, 2) = CLOSED
            """);
    }

    private static void bad() {
        RUNS.play("BAD if from is not in 0 .. N-1", """
            new(5, 2, 16, 8)
            addMove(<0, 0..2, 0..4) = BAD
            addMove(>4, 0..2, 0..4) = BAD
            moves() = none
            addMove(0, 1, 2) = OK
            addMove(4, 1, 2) = OK
            """);
        RUNS.play("BAD if to is not in 0 .. N-1", """
            new(5, 2, 16, 8)
            addMove(0..4, 0..2, <0) = BAD
            addMove(0..4, 0..2, >4) = BAD
            moves() = none
            addMove(2, 1, 0) = OK
            addMove(2, 1, 4) = OK
            """);
        RUNS.play("BAD if label is not in 0 .. L", """
            new(5, 2, 16, 8)
            addMove(0..4, <0, 0..4) = BAD
            addMove(0..4, >2, 0..4) = BAD
            moves() = none
            addMove(2, 0, 3) = OK
            addMove(2, 2, 3) = OK
            """);
        RUNS.play("BAD if more than one argument is out of its range", """
            new(5, 2, 16, 8)
            addMove(<0, <0, 0) = BAD
            addMove(0, >2, >4) = BAD
            addMove(<0, 0, >4) = BAD
            addMove(-1, -1, -1) = BAD
            addMove(5, 3, 5) = BAD
            addMove(MIN, MAX, MIN) = BAD
            """);
        RUNS.play("BAD comes before FULL", FULL_OBJECT + """
            addMove(<0, 0, 2) = BAD
            addMove(>2, 0, 2) = BAD
            addMove(2, <0, 2) = BAD
            addMove(2, >1, 2) = BAD
            addMove(2, 0, <0) = BAD
            addMove(2, 0, >2) = BAD
            """ + ITS_MOVES);
        RUNS.play("BAD with the greatest N and L too", """
            new(12, 3, 32, 8)
            addMove(>11, 3, 11) = BAD
            addMove(11, >3, 11) = BAD
            addMove(11, 3, >11) = BAD
            addMove(11, 3, 11) = OK
            """);
    }

    private static void present() {
        RUNS.play("PRESENT if the move (from, label, to) is there", """
            new(4, 2, 16, 8)
            addMove(0, 1, 2) = OK
            addMove(0, 1, 2) = PRESENT
            addMove(2, 1, 0) = OK
            addMove(0, 2, 2) = OK
            addMove(0, 1, 1) = OK
            addMove(3, 0, 3) = OK
            addMove(0, 1, 2) = PRESENT
            addMove(3, 0, 3) = PRESENT
            moves() = 0.1.2 2.1.0 0.2.2 0.1.1 3.0.3
            removeMove(0, 1, 2) = OK
            addMove(0, 1, 2) = OK
            addMove(0, 1, 2) = PRESENT
            """);
        RUNS.play("PRESENT also when there are M moves", FULL_OBJECT + """
            addMove(0..2, 0, 0..1) = PRESENT
            addMove(0..1, 0, 2) = PRESENT
            """ + ITS_MOVES);
        RUNS.play("PRESENT when there is no other move to be had", """
            new(2, 1, 8, 8)
            addMove(0..1, 0..1, 0..1) = OK
            addMove(0..1, 0..1, 0..1) = PRESENT
            moveCount() = 8
            """);
    }

    private static void full() {
        RUNS.play("FULL if there are M moves, the least M", FULL_OBJECT + """
            addMove(2, 0, 2) = FULL
            addMove(0..2, 1, 0..2) = FULL
            """ + ITS_MOVES);
        RUNS.play("FULL if there are M moves, the greatest M", """
            new(12, 3, 32, 8)
            addMove(0..7, 0..3, 11) = OK
            moveCount() = 32
            addMove(8..11, 0..3, 0..11) = FULL
            addMove(0..7, 0..3, 0..10) = FULL
            moveCount() = 32
            """);
        RUNS.play("no FULL before there are M moves", """
            new(4, 1, 9, 8)
            addMove(0..3, 0, 0..1) = OK
            moveCount() = 8
            addMove(3, 1, 3) = OK
            addMove(3, 1, 2) = FULL
            moveCount() = 9
            """);
    }

    private static void ok() {
        RUNS.play("after OK there is one move more and all other moves stay", """
            new(12, 3, 16, 8)
            addMove(0, 1, 1) = OK
            moves() = 0.1.1
            addMove(1, 1, 0) = OK
            moves() = 0.1.1 1.1.0
            addMove(0, 2, 1) = OK
            moves() = 0.1.1 1.1.0 0.2.1
            addMove(0, 1, 2) = OK
            moves() = 0.1.1 1.1.0 0.2.1 0.1.2
            addMove(2, 1, 1) = OK
            moves() = 0.1.1 1.1.0 0.2.1 0.1.2 2.1.1
            addMove(11, 0, 0) = OK
            moves() = 0.1.1 1.1.0 0.2.1 0.1.2 2.1.1 11.0.0
            addMove(0, 3, 11) = OK
            moves() = 0.1.1 1.1.0 0.2.1 0.1.2 2.1.1 11.0.0 0.3.11
            addMove(11, 3, 11) = OK
            moves() = 0.1.1 1.1.0 0.2.1 0.1.2 2.1.1 11.0.0 0.3.11 11.3.11
            addMove(0, 0, 0) = OK
            moves() = 0.1.1 1.1.0 0.2.1 0.1.2 2.1.1 11.0.0 0.3.11 11.3.11 0.0.0
            """);
        RUNS.play("after OK the object stays open", """
            new(3, 1, 8, 8)
            addMove(0, 1, 1) = OK
            blockCount() = OPEN
            addMove(0, 0, 0) = OK
            reopen() = OPEN
            minimise() = 2
            """);
        RUNS.play("from = to is allowed with every label, the silent one included", """
            new(3, 3, 16, 8)
            addMove(0, 0..3, 0) = OK
            addMove(2, 0..3, 2) = OK
            moves() = 0.0.0 0.1.0 0.2.0 0.3.0 2.0.2 2.1.2 2.2.2 2.3.2
            addMove(0, 0..3, 0) = PRESENT
            """);
    }
}
