/** Promise 4: asking for a move. */
public final class Promise04Test {
    private static final Runs RUNS = new Runs();

    public static void main(String[] args) {
        openAndMinimised();
        bad();
        notOfTheQuotient();
        changesNothing();
        RUNS.end();
    }

    private static void openAndMinimised() {
        RUNS.play("works both open and minimised", """
            new(4, 2, 8, 8)
            hasMove(0..3, 0..2, 0..3) = NO
            addMove(0, 1, 2) = OK
            addMove(3, 0, 3) = OK
            hasMove(0, 1, 2) = YES
            hasMove(3, 0, 3) = YES
            hasMove(2, 1, 0) = NO
            moves() = 0.1.2 3.0.3
            minimise() = 3
            hasMove(0, 1, 2) = YES
            hasMove(3, 0, 3) = YES
            hasMove(2, 1, 0) = NO
            moves() = 0.1.2 3.0.3
            reopen() = OK
            moves() = 0.1.2 3.0.3
            """);
        RUNS.play("with no moves and with M moves", """
            new(2, 1, 8, 8)
            moves() = none
            minimise() = 1
            moves() = none
            reopen() = OK
            addMove(0..1, 0..1, 0..1) = OK
            hasMove(0..1, 0..1, 0..1) = YES
            minimise() = 1
            hasMove(0..1, 0..1, 0..1) = YES
            """);
    }

    private static void bad() {
        String open = """
            new(5, 2, 32, 8)
            addMove(0..4, 0, 0..4) = OK
            """;
        for (String object : new String[] {open, open + "minimise() = 1\n"}) {
            RUNS.play("BAD if from is not in 0 .. N-1", object + """
                hasMove(<0, 0..2, 0..4) = BAD
                hasMove(>4, 0..2, 0..4) = BAD
                """);
            RUNS.play("BAD if to is not in 0 .. N-1", object + """
                hasMove(0..4, 0..2, <0) = BAD
                hasMove(0..4, 0..2, >4) = BAD
                """);
            RUNS.play("BAD if label is not in 0 .. L", object + """
                hasMove(0..4, <0, 0..4) = BAD
                hasMove(0..4, >2, 0..4) = BAD
                """);
            RUNS.play("no BAD at the ends of the ranges", object + """
                hasMove(0, 0, 0) = YES
                hasMove(4, 0, 4) = YES
                hasMove(4, 2, 4) = NO
                """);
        }
    }

    private static void notOfTheQuotient() {
        RUNS.play("it speaks of the moves of the system, not of the quotient", """
            new(4, 1, 8, 8)
            addMove(0, 0, 1) = OK
            addMove(1, 0, 0) = OK
            addMove(3, 1, 2) = OK
            minimise() = 3
            blocks() = 0 0 1 2
            quotientMove(0, 0, 0) = YES
            hasMove(0, 0, 0) = NO
            quotientMove(2, 1, 1) = YES
            hasMove(2, 1, 1) = NO
            quotientMove(0, 0, 1) = NO
            hasMove(0, 0, 1) = YES
            quotientMove(3, 1, 2) = BAD
            hasMove(3, 1, 2) = YES
            """);
    }

    private static void changesNothing() {
        RUNS.play("it changes nothing", """
            new(3, 1, 8, 8)
            addMove(0, 1, 2) = OK
            hasMove(ANY, >1, ANY) = BAD
            hasMove(0, 0..1, 0..1) = NO
            moves() = 0.1.2
            blockCount() = OPEN
            addMove(0, 0..1, 0..1) = OK
            addMove(1, 0, 0..2) = OK
            hasMove(2, 0..1, 0..2) = NO
            addMove(2, 0, 0) = FULL
            """);
    }
}
