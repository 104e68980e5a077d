/** Promise 9: the block of a state. */
public final class Promise09Test {
    private static final Runs RUNS = new Runs();

    public static void main(String[] args) {
        RUNS.play("OPEN if the object is open, whatever the argument is", """
            new(4, 1, 8, 8)
            blockOf(0..3) = OPEN
            blockOf(<0) = OPEN
            blockOf(>3) = OPEN
            addMove(0, 1, 1) = OK
            minimise() = 2
            reopen() = OK
            blockOf(0..3) = OPEN
            blockOf(<0) = OPEN
            blockOf(>3) = OPEN
            """);
        RUNS.play("BAD if state is not in 0 .. N-1", """
            new(6, 1, 8, 8)
            addMove(5, 1, 0) = OK
            minimise() = 2
            blockOf(<0) = BAD
            blockOf(>5) = BAD
            blockOf(0) = 0
            blockOf(5) = 1
            """);
        RUNS.play("BAD with the least and the greatest N", """
            new(2, 1, 8, 8)
            minimise() = 1
            blockOf(<0) = BAD
            blockOf(>1) = BAD
            blockOf(0..1) = 0
            new(12, 1, 8, 8)
            minimise() = 1
            blockOf(<0) = BAD
            blockOf(>11) = BAD
            blockOf(0..11) = 0
            """);
        RUNS.play("otherwise the number of its block, 0 .. blockCount()-1", """
            new(6, 1, 8, 8)
            addMove(5, 1, 0) = OK
            addMove(3, 1, 0) = OK
            addMove(2, 1, 3) = OK
            minimise() = 3
            blockCount() = 3
            blockOf(0) = 0
            blockOf(1) = 0
            blockOf(2) = 1
            blockOf(3) = 2
            blockOf(4) = 0
            blockOf(5) = 2
            """);
        RUNS.play("it changes nothing", """
            new(3, 1, 8, 8)
            addMove(1, 1, 1) = OK
            minimise() = 2
            tell(1, 0) = 0
            blockOf(2) = 0
            blockOf(3) = BAD
            blockOf(1) = 1
            blocks() = 0 1 0
            states(0) = 0 1 0
            """);
        RUNS.end();
    }
}
