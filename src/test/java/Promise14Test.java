/** Promise 14: telling two states apart. */
public final class Promise14Test {
    private static final Runs RUNS = new Runs();

    // Three blocks of two, three and one state.
    private static final String THREE_BLOCKS = """
        new(6, 1, 8, 8)
        addMove(0, 1, 1) = OK
        addMove(2, 0, 0) = OK
        addMove(3, 0, 3) = OK
        minimise() = 3
        blocks() = 0 1 0 2 1 1
        """;
    private static final String Q_FORMULAS = THREE_BLOCKS + """
        tell(0, 1) = 0
        tell(0, 1) = 1
        tell(0, 1) = 2
        tell(0, 1) = 3
        tell(0, 1) = 4
        tell(0, 1) = 5
        tell(0, 1) = 6
        make(KIND_TRUE, 0, 0, 0) = 7
        """;

    public static void main(String[] args) {
        open();
        bad();
        same();
        full();
        holdsAtTheBlock();
        oneNumber();
        operand();
        nothingElseChanges();
        RUNS.end();
    }

    private static void open() {
        RUNS.play("OPEN if the object is open, whatever the arguments are", """
            new(3, 1, 8, 8)
            tell(0..2, 0..2) = OPEN
            tell(ANY, ANY) = OPEN
            addMove(0, 1, 1) = OK
            minimise() = 2
            tell(0, 1) = 0
            reopen() = OK
            tell(0..2, 0..2) = OPEN
            tell(ANY, ANY) = OPEN
            formulaCount() = 0
            """);
    }

    private static void bad() {
        RUNS.play("BAD if s is not in 0 .. N-1", THREE_BLOCKS + """
            tell(<0, 0..5) = BAD
            tell(>5, 0..5) = BAD
            formulaCount() = 0
            tell(0, 5) = 0
            tell(5, 0) = 1
            """);
        RUNS.play("BAD if t is not in 0 .. N-1", THREE_BLOCKS + """
            tell(0..5, <0) = BAD
            tell(0..5, >5) = BAD
            formulaCount() = 0
            tell(0, 5) = 0
            tell(5, 0) = 1
            """);
        RUNS.play("BAD comes before SAME, also if s = t", THREE_BLOCKS + """
            tell(-1, -1) = BAD
            tell(6, 6) = BAD
            tell(MIN, MIN) = BAD
            tell(MAX, MAX) = BAD
            tell(<0, <0) = BAD
            tell(>5, >5) = BAD
            tell(<0, >5) = BAD
            """);
        RUNS.play("BAD comes before FULL", Q_FORMULAS + """
            tell(<0, 0) = BAD
            tell(>5, 0) = BAD
            tell(0, <0) = BAD
            tell(0, >5) = BAD
            formulaCount() = 8
            """);
        RUNS.play("BAD also when all states are in one block", """
            new(2, 1, 8, 8)
            minimise() = 1
            tell(0..1, 0..1) = SAME
            tell(>1, 0..1) = BAD
            tell(0..1, >1) = BAD
            tell(<0, 0..1) = BAD
            tell(0..1, <0) = BAD
            """);
    }

    private static void same() {
        RUNS.play("SAME if s and t are in one block", THREE_BLOCKS + """
            tell(0, 2) = SAME
            tell(2, 0) = SAME
            tell(1, 4) = SAME
            tell(5, 1) = SAME
            tell(4, 5) = SAME
            formulaCount() = 0
            """);
        RUNS.play("SAME also if s = t", THREE_BLOCKS + """
            tell(0, 0) = SAME
            tell(1, 1) = SAME
            tell(2, 2) = SAME
            tell(3, 3) = SAME
            tell(4, 4) = SAME
            tell(5, 5) = SAME
            formulaCount() = 0
            """);
        RUNS.play("SAME also when there are Q formulas", Q_FORMULAS + """
            tell(0, 2) = SAME
            tell(5, 1) = SAME
            tell(3, 3) = SAME
            formulaCount() = 8
            """);
    }

    private static void full() {
        RUNS.play("FULL if there are Q formulas", Q_FORMULAS + """
            tell(0, 1) = FULL
            tell(1, 0) = FULL
            tell(3, 5) = FULL
            formulaCount() = 8
            states(6) = 1 0 1 0 0 0
            states(7) = 1 1 1 1 1 1
            holds(8, 0) = BAD
            """);
        RUNS.play("no FULL before there are Q formulas, and none after reopen() and minimise()", Q_FORMULAS + """
            tell(0, 1) = FULL
            reopen() = OK
            minimise() = 3
            tell(3, 1) = 0
            states(0) = 0 0 0 1 0 0
            """);
    }

    private static void holdsAtTheBlock() {
        RUNS.play("a formula is made that holds at exactly the states of the block of s", THREE_BLOCKS + """
            tell(0, 1) = 0
            tell(2, 3) = 1
            tell(1, 0) = 2
            tell(5, 3) = 3
            tell(3, 4) = 4
            tell(3, 0) = 5
            states(0) = 1 0 1 0 0 0
            states(1) = 1 0 1 0 0 0
            states(2) = 0 1 0 0 1 1
            states(3) = 0 1 0 0 1 1
            states(4) = 0 0 0 1 0 0
            states(5) = 0 0 0 1 0 0
            """);
        RUNS.play("with N blocks, at s alone", allOfTwelve());
        RUNS.play("the same states as a formula of the five forms", """
            new(4, 2, 8, 16)
            addMove(0, 0, 1) = OK
            addMove(1, 1, 3) = OK
            addMove(2, 0, 2) = OK
            addMove(2, 1, 3) = OK
            minimise() = 3
            blocks() = 0 0 1 2
            tell(1, 2) = 0
            make(KIND_TRUE, 0, 0, 0) = 1
            make(KIND_UNTIL, 1, 1, 1) = 2
            make(KIND_DIV, 1, 0, 0) = 3
            make(KIND_NOT, 3, 0, 0) = 4
            make(KIND_AND, 2, 0, 4) = 5
            states(0) = 1 1 0 0
            states(5) = 1 1 0 0
            """);
    }

    private static String allOfTwelve() {
        StringBuilder script = new StringBuilder("new(12, 1, 32, 32)\n");
        for (int state = 0; state < 11; state++) {
            script.append("addMove(").append(state).append(", 1, ").append(state + 1).append(") = OK\n");
        }
        script.append("minimise() = 12\n");
        for (int state = 0; state < 12; state++) {
            script.append("tell(").append(state).append(", ").append(11 - state).append(") = ").append(state).append('\n');
        }
        for (int state = 0; state < 12; state++) {
            script.append("states(").append(state).append(") =");
            for (int other = 0; other < 12; other++) {
                script.append(other == state ? " 1" : " 0");
            }
            script.append('\n');
        }
        return script.toString();
    }

    private static void oneNumber() {
        RUNS.play("it gets one number, the one formulaCount() had before the call", THREE_BLOCKS + """
            formulaCount() = 0
            tell(0, 1) = 0
            formulaCount() = 1
            make(KIND_NOT, 0, 0, 0) = 1
            tell(3, 3) = SAME
            formulaCount() = 2
            tell(3, 1) = 2
            formulaCount() = 3
            """);
        RUNS.play("its parts have no numbers and can't be asked", THREE_BLOCKS + """
            tell(3, 1) = 0
            holds(>0, 0..5) = BAD
            make(KIND_NOT, >0, 0, 0) = BAD
            """);
        RUNS.play("it takes one of the Q places", THREE_BLOCKS + """
            tell(3, 1) = 0
            tell(1, 3) = 1
            tell(0, 3) = 2
            tell(3, 0) = 3
            tell(1, 0) = 4
            tell(0, 1) = 5
            tell(2, 4) = 6
            formulaCount() = 7
            tell(4, 2) = 7
            tell(4, 2) = FULL
            formulaCount() = 8
            """);
        RUNS.play("a repeated call with the same states makes one more formula with a number of its own",
            THREE_BLOCKS + """
            tell(2, 1) = 0
            tell(2, 1) = 1
            tell(2, 1) = 2
            formulaCount() = 3
            states(0) = 1 0 1 0 0 0
            states(1) = 1 0 1 0 0 0
            states(2) = 1 0 1 0 0 0
            """);
    }

    private static void operand() {
        RUNS.play("it can be an operand like any other", THREE_BLOCKS + """
            tell(0, 1) = 0
            tell(1, 0) = 1
            make(KIND_NOT, 0, 0, 0) = 2
            states(2) = 0 1 0 1 1 1
            make(KIND_AND, 2, 0, 1) = 3
            states(3) = 0 1 0 0 1 1
            make(KIND_UNTIL, 0, 1, 1) = 4
            states(4) = 1 0 1 0 0 0
            tell(3, 0) = 5
            make(KIND_DIV, 5, 0, 0) = 6
            states(6) = 0 0 0 1 0 0
            """);
    }

    private static void nothingElseChanges() {
        RUNS.play("earlier formulas keep their numbers and meaning, and moves, blocks and quotient stay",
            THREE_BLOCKS + """
            make(KIND_TRUE, 0, 0, 0) = 0
            make(KIND_UNTIL, 0, 1, 0) = 1
            tell(3, 0) = 2
            tell(4, 3) = 3
            tell(0, 5) = 4
            states(0) = 1 1 1 1 1 1
            states(1) = 1 0 1 0 0 0
            states(2) = 0 0 0 1 0 0
            states(3) = 0 1 0 0 1 1
            states(4) = 1 0 1 0 0 0
            moves() = 0.1.1 2.0.0 3.0.3
            blocks() = 0 1 0 2 1 1
            quotient() = 0.1.1 2.0.2
            """);
    }
}
