/** Promise 11: the moves of the quotient. */
public final class Promise11Test {
    private static final Runs RUNS = new Runs();

    public static void main(String[] args) {
        betweenBlocks();
        insideABlock();
        open();
        bad();
        blockNumbers();
        RUNS.end();
    }

    private static void betweenBlocks() {
        RUNS.play("(b, a, c) exactly if some state of b has an a-move to some state of c", """
            new(6, 2, 16, 8)
            addMove(0, 0, 1) = OK
            addMove(1, 1, 2) = OK
            addMove(4, 1, 3) = OK
            addMove(3, 0, 2) = OK
            addMove(5, 2, 4) = OK
            minimise() = 3
            blocks() = 0 0 1 1 0 2
            quotientMove(0, 1, 1) = YES
            quotientMove(2, 2, 0) = YES
            quotientMove(1, 1, 0) = NO
            quotientMove(0, 2, 1) = NO
            quotient() = 0.1.1 2.2.0
            """);
        RUNS.play("(b, 0, c) with b different from c exactly if some state of b has a silent move to some state of c", """
            new(6, 2, 16, 8)
            addMove(0, 0, 1) = OK
            addMove(1, 0, 2) = OK
            addMove(1, 1, 3) = OK
            addMove(4, 0, 0) = OK
            addMove(3, 2, 3) = OK
            addMove(5, 0, 2) = OK
            minimise() = 3
            blocks() = 0 0 1 2 0 1
            quotientMove(0, 0, 1) = YES
            quotientMove(1, 0, 0) = NO
            quotient() = 0.0.1 0.1.2 2.2.2
            """);
        RUNS.play("no move of the quotient by way of another block", """
            new(3, 1, 8, 8)
            addMove(0, 0, 1) = OK
            addMove(1, 1, 2) = OK
            addMove(0, 0, 2) = OK
            minimise() = 3
            quotientMove(0, 1, 2) = NO
            quotient() = 0.0.1 0.0.2 1.1.2
            """);
        RUNS.play("no move of the quotient without a move of the system", """
            new(4, 1, 8, 8)
            minimise() = 1
            quotientMove(0, 0..1, 0) = NO
            quotient() = none
            """);
        RUNS.play("the greatest label", """
            new(12, 3, 8, 8)
            addMove(11, 3, 0) = OK
            minimise() = 2
            quotientMove(1, 3, 0) = YES
            quotient() = 1.3.0
            """);
    }

    private static void insideABlock() {
        RUNS.play("(b, 0, b) by one silent move from a state to itself", """
            new(3, 1, 8, 8)
            addMove(1, 0, 1) = OK
            minimise() = 2
            quotientMove(1, 0, 1) = YES
            quotientMove(0, 0, 0) = NO
            quotient() = 1.0.1
            """);
        RUNS.play("(b, 0, b) round a cycle", """
            new(4, 1, 8, 8)
            addMove(0, 0, 1) = OK
            addMove(1, 0, 2) = OK
            addMove(2, 0, 0) = OK
            minimise() = 2
            quotientMove(0, 0, 0) = YES
            quotientMove(1, 0, 1) = NO
            quotient() = 0.0.0
            """);
        RUNS.play("(b, 0, b) where most states only lead into the cycle", """
            new(4, 1, 8, 8)
            addMove(0, 0, 1) = OK
            addMove(1, 0, 2) = OK
            addMove(2, 0, 3) = OK
            addMove(3, 0, 3) = OK
            minimise() = 1
            quotientMove(0, 0, 0) = YES
            quotient() = 0.0.0
            """);
        RUNS.play("silent moves inside b that allow no infinite silent path give no move (b, 0, b)", """
            new(4, 1, 8, 8)
            addMove(0, 0, 1) = OK
            addMove(1, 0, 2) = OK
            addMove(2, 0, 3) = OK
            addMove(0, 0, 3) = OK
            minimise() = 1
            quotientMove(0, 0, 0) = NO
            quotient() = none
            """);
        RUNS.play("an infinite silent path that leaves b gives no move (b, 0, b)", """
            new(4, 1, 8, 8)
            addMove(0, 0, 1) = OK
            addMove(1, 0, 2) = OK
            addMove(1, 1, 3) = OK
            addMove(2, 0, 2) = OK
            minimise() = 3
            blocks() = 0 0 1 2
            quotientMove(0, 0, 0) = NO
            quotient() = 0.0.1 0.1.2 1.0.1
            """);
        RUNS.play("a visible move inside b does give a move of the quotient from b to b", """
            new(4, 2, 8, 8)
            addMove(0, 1, 1) = OK
            addMove(1, 1, 0) = OK
            addMove(2, 2, 2) = OK
            minimise() = 3
            blocks() = 0 0 1 2
            quotientMove(0, 1, 0) = YES
            quotientMove(1, 2, 1) = YES
            quotientMove(0, 0, 0) = NO
            quotientMove(0, 2, 0) = NO
            quotient() = 0.1.0 1.2.1
            """);
    }

    private static void open() {
        RUNS.play("OPEN if the object is open, whatever the arguments are", """
            new(4, 1, 8, 8)
            addMove(0, 1, 0) = OK
            quotientMove(0..3, 0..1, 0..3) = OPEN
            quotientMove(ANY, ANY, ANY) = OPEN
            minimise() = 2
            reopen() = OK
            quotientMove(0..3, 0..1, 0..3) = OPEN
            quotientMove(ANY, ANY, ANY) = OPEN
            """);
    }

    private static void bad() {
        // Five states but two blocks: 0.1.1 is the one move of the quotient.
        String object = """
            new(5, 2, 8, 8)
            addMove(0, 1, 1) = OK
            minimise() = 2
            quotient() = 0.1.1
            """;
        RUNS.play("BAD if from is not in 0 .. blockCount()-1", object + """
            quotientMove(<0, 0..2, 0..1) = BAD
            quotientMove(>1, 0..2, 0..1) = BAD
            quotientMove(1, 1, 1) = NO
            """);
        RUNS.play("BAD if to is not in 0 .. blockCount()-1", object + """
            quotientMove(0..1, 0..2, <0) = BAD
            quotientMove(0..1, 0..2, >1) = BAD
            quotientMove(0, 1, 1) = YES
            """);
        RUNS.play("BAD if label is not in 0 .. L", object + """
            quotientMove(0..1, <0, 0..1) = BAD
            quotientMove(0..1, >2, 0..1) = BAD
            quotientMove(0, 0, 0) = NO
            quotientMove(0, 2, 1) = NO
            """);
        RUNS.play("BAD if more than one argument is out of its range", object + """
            quotientMove(<0, >2, 0) = BAD
            quotientMove(0, <0, >1) = BAD
            quotientMove(2, 3, 2) = BAD
            quotientMove(-1, -1, -1) = BAD
            """);
        RUNS.play("BAD with one block and with N blocks", """
            new(3, 1, 8, 8)
            minimise() = 1
            quotientMove(>0, 0, 0) = BAD
            quotientMove(0, 0, >0) = BAD
            reopen() = OK
            addMove(0, 1, 1) = OK
            addMove(1, 1, 2) = OK
            minimise() = 3
            quotientMove(1, 1, 2) = YES
            quotientMove(2, 1, 2) = NO
            quotientMove(>2, 1, 2) = BAD
            quotientMove(1, 1, >2) = BAD
            """);
    }

    private static void blockNumbers() {
        RUNS.play("from and to are block numbers, not states", """
            new(6, 1, 8, 8)
            addMove(4, 1, 5) = OK
            addMove(5, 0, 5) = OK
            minimise() = 3
            blocks() = 0 0 0 0 1 2
            quotientMove(1, 1, 2) = YES
            quotientMove(2, 0, 2) = YES
            quotientMove(4, 1, 5) = BAD
            quotientMove(5, 0, 5) = BAD
            """);
        RUNS.play("it changes nothing", """
            new(4, 1, 8, 8)
            addMove(1, 1, 1) = OK
            minimise() = 2
            tell(1, 0) = 0
            quotientMove(0..1, 0, 0..1) = NO
            quotientMove(2, 0, 0) = BAD
            quotient() = 1.1.1
            blocks() = 0 1 0 0
            states(0) = 0 1 0 0
            """);
    }
}
