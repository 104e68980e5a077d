/** Promise 10: the leader of a block. */
public final class Promise10Test {
    private static final Runs RUNS = new Runs();

    public static void main(String[] args) {
        RUNS.play("OPEN if the object is open, whatever the argument is", """
            new(4, 1, 8, 8)
            leader(0..3) = OPEN
            leader(<0) = OPEN
            leader(>3) = OPEN
            addMove(0, 1, 1) = OK
            minimise() = 2
            reopen() = OK
            leader(0..3) = OPEN
            leader(<0) = OPEN
            leader(>3) = OPEN
            """);
        RUNS.play("BAD if block is not in 0 .. blockCount()-1", """
            new(6, 1, 8, 8)
            addMove(5, 1, 0) = OK
            minimise() = 2
            leader(<0) = BAD
            leader(>1) = BAD
            leader(0) = 0
            leader(1) = 5
            """);
        RUNS.play("BAD with one block and with N blocks", """
            new(2, 1, 8, 8)
            minimise() = 1
            leader(<0) = BAD
            leader(>0) = BAD
            reopen() = OK
            addMove(0, 1, 0) = OK
            minimise() = 2
            leader(<0) = BAD
            leader(>1) = BAD
            leader(1) = 1
            """);
        RUNS.play("BAD goes by the blocks of the last minimise()", """
            new(3, 1, 8, 8)
            addMove(0, 1, 1) = OK
            addMove(1, 1, 2) = OK
            minimise() = 3
            leader(2) = 2
            reopen() = OK
            removeMove(1, 1, 2) = OK
            minimise() = 2
            leader(2) = BAD
            reopen() = OK
            addMove(2, 0, 2) = OK
            minimise() = 3
            leader(2) = 2
            """);
        RUNS.play("otherwise the least state of that block", """
            new(6, 1, 8, 8)
            addMove(5, 1, 0) = OK
            addMove(3, 1, 0) = OK
            addMove(2, 1, 3) = OK
            minimise() = 3
            blocks() = 0 0 1 2 0 2
            leader(0) = 0
            leader(1) = 2
            leader(2) = 3
            new(12, 1, 8, 8)
            addMove(11, 1, 11) = OK
            minimise() = 2
            leader(1) = 11
            """);
        RUNS.play("leader(0) is 0 on every minimised object", """
            new(3, 1, 8, 8)
            minimise() = 1
            leader(0) = 0
            reopen() = OK
            addMove(0, 1, 0) = OK
            minimise() = 2
            leader(0) = 0
            reopen() = OK
            addMove(1, 0, 1) = OK
            minimise() = 3
            leader(0) = 0
            reopen() = OK
            removeMove(0, 1, 0) = OK
            minimise() = 2
            leader(0) = 0
            """);
        RUNS.play("leaders ascend with the block numbers", """
            new(12, 3, 16, 8)
            addMove(11, 1, 0) = OK
            addMove(9, 2, 0) = OK
            addMove(7, 3, 0) = OK
            addMove(5, 1, 5) = OK
            addMove(3, 2, 3) = OK
            addMove(1, 3, 1) = OK
            minimise() = 7
            leader(0) = 0
            leader(1) = 1
            leader(2) = 3
            leader(3) = 5
            leader(4) = 7
            leader(5) = 9
            leader(6) = 11
            """);
        RUNS.play("it changes nothing", """
            new(3, 1, 8, 8)
            addMove(1, 1, 1) = OK
            minimise() = 2
            tell(1, 0) = 0
            leader(1) = 1
            leader(2) = BAD
            leader(0) = 0
            blocks() = 0 1 0
            states(0) = 0 1 0
            """);
        RUNS.end();
    }
}
