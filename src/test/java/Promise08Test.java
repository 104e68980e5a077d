/** Promise 8: the number of blocks. */
public final class Promise08Test {
    private static final Runs RUNS = new Runs();

    public static void main(String[] args) {
        RUNS.play("OPEN if the object is open", """
            new(3, 1, 8, 8)
            blockCount() = OPEN
            addMove(0, 1, 1) = OK
            blockCount() = OPEN
            minimise() = 2
            reopen() = OK
            blockCount() = OPEN
            """);
        RUNS.play("else the number of blocks, at least 1", """
            new(2, 1, 8, 8)
            minimise() = 1
            blockCount() = 1
            new(12, 3, 32, 32)
            minimise() = 1
            blockCount() = 1
            """);
        RUNS.play("else the number of blocks, at most N", """
            new(2, 1, 8, 8)
            addMove(1, 0, 1) = OK
            minimise() = 2
            blockCount() = 2
            new(12, 3, 32, 32)
            addMove(0, 1, 1) = OK
            addMove(1, 1, 2) = OK
            addMove(2, 1, 3) = OK
            addMove(3, 1, 4) = OK
            addMove(4, 1, 5) = OK
            addMove(5, 1, 6) = OK
            addMove(6, 1, 7) = OK
            addMove(7, 1, 8) = OK
            addMove(8, 1, 9) = OK
            addMove(9, 1, 10) = OK
            addMove(10, 1, 11) = OK
            minimise() = 12
            blockCount() = 12
            """);
        RUNS.play("the same number that the last minimise() answered when it made the object minimised", """
            new(3, 1, 8, 8)
            addMove(0, 1, 1) = OK
            minimise() = 2
            minimise() = CLOSED
            blockCount() = 2
            reopen() = OK
            addMove(1, 1, 2) = OK
            minimise() = 3
            minimise() = CLOSED
            blockCount() = 3
            reopen() = OK
            removeMove(0, 1, 1) = OK
            removeMove(1, 1, 2) = OK
            minimise() = 1
            blockCount() = 1
            """);
        RUNS.play("it changes nothing", """
            new(3, 1, 8, 8)
            blockCount() = OPEN
            addMove(0, 1, 1) = OK
            minimise() = 2
            tell(0, 1) = 0
            blockCount() = 2
            blockCount() = 2
            blocks() = 0 1 1
            states(0) = 1 0 0
            """);
        RUNS.end();
    }
}
