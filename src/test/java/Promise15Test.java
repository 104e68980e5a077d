/** Promise 15: whether a formula holds. */
public final class Promise15Test {
    private static final Runs RUNS = new Runs();

    // A silent chain 4, 0, 1, 2 on which each step gives up a visible move. Formulas: 0 is TRUE,
    // 1 is NOT TRUE, 2 to 6 hold at exactly 0, at 1, at 2, at 3 and 5, at 4.
    private static final String CHAIN = """
        new(6, 3, 16, 32)
        addMove(0, 0, 1) = OK
        addMove(1, 0, 2) = OK
        addMove(2, 1, 3) = OK
        addMove(1, 2, 1) = OK
        addMove(0, 3, 5) = OK
        addMove(4, 0, 0) = OK
        addMove(4, 3, 4) = OK
        minimise() = 5
        blocks() = 0 1 2 3 4 3
        make(KIND_TRUE, 0, 0, 0) = 0
        make(KIND_NOT, 0, 0, 0) = 1
        tell(0, 1) = 2
        tell(1, 0) = 3
        tell(2, 0) = 4
        tell(3, 0) = 5
        tell(4, 0) = 6
        """;

    // A cycle 1, 2 that 0 leads into, a silent move from 3 to itself, and an end at 5.
    private static final String CYCLES = """
        new(6, 1, 16, 16)
        addMove(0, 0, 1) = OK
        addMove(1, 0, 2) = OK
        addMove(2, 0, 1) = OK
        addMove(2, 1, 5) = OK
        addMove(3, 0, 3) = OK
        addMove(4, 0, 5) = OK
        addMove(5, 1, 5) = OK
        addMove(0, 0, 3) = OK
        minimise() = 4
        blocks() = 0 1 1 2 3 3
        make(KIND_TRUE, 0, 0, 0) = 0
        make(KIND_NOT, 0, 0, 0) = 1
        tell(0, 1) = 2
        tell(1, 0) = 3
        tell(3, 0) = 4
        """;

    public static void main(String[] args) {
        open();
        bad();
        trueNotAnd();
        untilAtOnce();
        untilByAPath();
        div();
        madeByTell();
        changesNothing();
        RUNS.end();
    }

    private static void open() {
        RUNS.play("OPEN if the object is open, whatever the arguments are", """
            new(3, 1, 8, 8)
            holds(0..7, 0..2) = OPEN
            holds(ANY, ANY) = OPEN
            minimise() = 1
            make(KIND_TRUE, 0, 0, 0) = 0
            reopen() = OK
            holds(0..7, 0..2) = OPEN
            holds(ANY, ANY) = OPEN
            """);
    }

    private static void bad() {
        String twoFormulas = """
            new(3, 1, 8, 8)
            minimise() = 1
            make(KIND_TRUE, 0, 0, 0) = 0
            make(KIND_TRUE, 0, 0, 0) = 1
            """;
        RUNS.play("BAD if formula is not in 0 .. formulaCount()-1", twoFormulas + """
            holds(<0, 0..2) = BAD
            holds(>1, 0..2) = BAD
            holds(0..1, 0..2) = YES
            """);
        RUNS.play("BAD if state is not in 0 .. N-1", twoFormulas + """
            holds(0..1, <0) = BAD
            holds(0..1, >2) = BAD
            holds(1, 0) = YES
            holds(1, 2) = YES
            """);
        RUNS.play("BAD if both arguments are out of their ranges", twoFormulas + """
            holds(<0, <0) = BAD
            holds(>1, >2) = BAD
            holds(<0, >2) = BAD
            holds(>1, <0) = BAD
            """);
        RUNS.play("BAD with every formula while there are none", """
            new(3, 1, 8, 8)
            minimise() = 1
            holds(0..7, 0..2) = BAD
            holds(ANY, ANY) = BAD
            """);
        RUNS.play("BAD when there are Q formulas and N is greatest", """
            new(12, 1, 8, 8)
            minimise() = 1
            make(KIND_TRUE, 0, 0, 0) = 0
            make(KIND_TRUE, 0, 0, 0) = 1
            make(KIND_TRUE, 0, 0, 0) = 2
            make(KIND_TRUE, 0, 0, 0) = 3
            make(KIND_TRUE, 0, 0, 0) = 4
            make(KIND_TRUE, 0, 0, 0) = 5
            make(KIND_TRUE, 0, 0, 0) = 6
            make(KIND_TRUE, 0, 0, 0) = 7
            holds(>7, 0..11) = BAD
            holds(0..7, >11) = BAD
            holds(0..7, 0..11) = YES
            """);
    }

    private static void trueNotAnd() {
        RUNS.play("TRUE holds at every state", """
            new(12, 1, 8, 8)
            addMove(11, 1, 0) = OK
            addMove(10, 0, 10) = OK
            minimise() = 3
            make(KIND_TRUE, 0, 0, 0) = 0
            states(0) = 1 1 1 1 1 1 1 1 1 1 1 1
            """);
        RUNS.play("NOT f holds at u exactly if f fails at u", """
            new(12, 1, 8, 8)
            addMove(11, 1, 0) = OK
            minimise() = 2
            make(KIND_TRUE, 0, 0, 0) = 0
            make(KIND_NOT, 0, 0, 0) = 1
            make(KIND_NOT, 1, 0, 0) = 2
            tell(0, 11) = 3
            make(KIND_NOT, 3, 0, 0) = 4
            make(KIND_NOT, 4, 0, 0) = 5
            states(1) = 0 0 0 0 0 0 0 0 0 0 0 0
            states(2) = 1 1 1 1 1 1 1 1 1 1 1 1
            states(3) = 1 1 1 1 1 1 1 1 1 1 1 0
            states(4) = 0 0 0 0 0 0 0 0 0 0 0 1
            states(5) = 1 1 1 1 1 1 1 1 1 1 1 0
            """);
        RUNS.play("AND f g holds at u exactly if f holds at u and g holds at u", """
            new(4, 2, 8, 16)
            addMove(0, 1, 3) = OK
            addMove(1, 1, 3) = OK
            addMove(1, 2, 3) = OK
            addMove(2, 2, 3) = OK
            minimise() = 4
            make(KIND_TRUE, 0, 0, 0) = 0
            make(KIND_NOT, 0, 0, 0) = 1
            make(KIND_UNTIL, 0, 1, 0) = 2
            make(KIND_UNTIL, 0, 2, 0) = 3
            states(2) = 1 1 0 0
            states(3) = 0 1 1 0
            make(KIND_AND, 2, 0, 3) = 4
            states(4) = 0 1 0 0
            make(KIND_AND, 3, 0, 2) = 5
            states(5) = 0 1 0 0
            make(KIND_AND, 2, 0, 0) = 6
            states(6) = 1 1 0 0
            make(KIND_AND, 1, 0, 2) = 7
            states(7) = 0 0 0 0
            """);
    }

    private static void untilAtOnce() {
        RUNS.play("UNTIL with a = 0 holds at u if g holds at u (f need not hold at u then)", CHAIN + """
            make(KIND_UNTIL, 1, 0, 4) = 7
            states(7) = 0 0 1 0 0 0
            make(KIND_UNTIL, 1, 0, 5) = 8
            states(8) = 0 0 0 1 0 1
            make(KIND_UNTIL, 1, 0, 0) = 9
            states(9) = 1 1 1 1 1 1
            make(KIND_UNTIL, 2, 0, 4) = 10
            states(10) = 0 0 1 0 0 0
            """);
        RUNS.play("UNTIL with a visible label: that g holds at u is not enough", CHAIN + """
            make(KIND_UNTIL, 0, 1, 4) = 7
            states(7) = 0 0 0 0 0 0
            make(KIND_UNTIL, 1, 1, 0) = 8
            states(8) = 0 0 0 0 0 0
            make(KIND_UNTIL, 0, 3, 5) = 9
            states(9) = 1 0 0 0 1 0
            """);
        RUNS.play("UNTIL where g holds nowhere", CHAIN + """
            make(KIND_UNTIL, 0, 0, 1) = 7
            states(7) = 0 0 0 0 0 0
            make(KIND_UNTIL, 0, 1, 1) = 8
            states(8) = 0 0 0 0 0 0
            """);
    }

    private static void untilByAPath() {
        RUNS.play("UNTIL by a path of one state", CHAIN + """
            make(KIND_UNTIL, 4, 1, 5) = 7
            states(7) = 0 0 1 0 0 0
            make(KIND_UNTIL, 3, 2, 3) = 8
            states(8) = 0 1 0 0 0 0
            make(KIND_UNTIL, 3, 0, 4) = 9
            states(9) = 0 1 1 0 0 0
            """);
        RUNS.play("UNTIL with f holding at the first state of the path", CHAIN + """
            make(KIND_NOT, 6, 0, 0) = 7
            make(KIND_UNTIL, 7, 1, 5) = 8
            states(8) = 1 1 1 0 0 0
            make(KIND_UNTIL, 7, 0, 4) = 9
            states(9) = 1 1 1 0 0 0
            """);
        RUNS.play("UNTIL with f holding between the first and the last state of the path", CHAIN + """
            make(KIND_NOT, 3, 0, 0) = 7
            make(KIND_UNTIL, 7, 1, 5) = 8
            states(8) = 0 0 1 0 0 0
            """);
        RUNS.play("UNTIL with f holding at the last state of the path", CHAIN + """
            make(KIND_NOT, 4, 0, 0) = 7
            make(KIND_UNTIL, 7, 1, 5) = 8
            states(8) = 0 0 0 0 0 0
            make(KIND_UNTIL, 1, 1, 5) = 9
            states(9) = 0 0 0 0 0 0
            """);
        RUNS.play("UNTIL: f need not hold at the state the a-move leads to", CHAIN + """
            make(KIND_NOT, 5, 0, 0) = 7
            make(KIND_UNTIL, 7, 1, 5) = 8
            states(8) = 1 1 1 0 1 0
            make(KIND_NOT, 4, 0, 0) = 9
            make(KIND_UNTIL, 9, 0, 4) = 10
            states(10) = 1 1 1 0 1 0
            """);
        RUNS.play("UNTIL: g has to hold at the state the a-move leads to", CHAIN + """
            make(KIND_NOT, 5, 0, 0) = 7
            make(KIND_UNTIL, 0, 1, 7) = 8
            states(8) = 0 0 0 0 0 0
            make(KIND_UNTIL, 0, 1, 5) = 9
            states(9) = 1 1 1 0 1 0
            make(KIND_UNTIL, 0, 3, 6) = 10
            states(10) = 0 0 0 0 1 0
            """);
        RUNS.play("UNTIL: a may be 0 or visible, each label by itself", CHAIN + """
            make(KIND_UNTIL, 0, 0, 4) = 7
            states(7) = 1 1 1 0 1 0
            make(KIND_UNTIL, 0, 1, 0) = 8
            states(8) = 1 1 1 0 1 0
            make(KIND_UNTIL, 0, 2, 0) = 9
            states(9) = 1 1 0 0 1 0
            make(KIND_UNTIL, 0, 3, 0) = 10
            states(10) = 1 0 0 0 1 0
            """);
        RUNS.play("UNTIL: the path goes by silent moves alone and in their direction", """
            new(5, 2, 8, 8)
            addMove(0, 1, 1) = OK
            addMove(1, 2, 4) = OK
            addMove(1, 0, 3) = OK
            addMove(2, 0, 1) = OK
            minimise() = 3
            blocks() = 0 1 1 2 2
            make(KIND_TRUE, 0, 0, 0) = 0
            make(KIND_UNTIL, 0, 2, 0) = 1
            states(1) = 0 1 1 0 0
            tell(3, 0) = 2
            make(KIND_UNTIL, 0, 0, 2) = 3
            states(3) = 0 1 1 1 1
            """);
        RUNS.play("UNTIL by a path through all states", """
            new(12, 1, 32, 8)
            addMove(11, 0, 10) = OK
            addMove(10, 0, 9) = OK
            addMove(9, 0, 8) = OK
            addMove(8, 0, 7) = OK
            addMove(7, 0, 6) = OK
            addMove(6, 0, 5) = OK
            addMove(5, 0, 4) = OK
            addMove(4, 0, 3) = OK
            addMove(3, 0, 2) = OK
            addMove(2, 0, 1) = OK
            addMove(1, 0, 0) = OK
            addMove(0, 1, 0) = OK
            minimise() = 1
            make(KIND_TRUE, 0, 0, 0) = 0
            make(KIND_UNTIL, 0, 1, 0) = 1
            states(1) = 1 1 1 1 1 1 1 1 1 1 1 1
            """);
        RUNS.play("UNTIL round a cycle: states may recur", CYCLES + """
            make(KIND_UNTIL, 0, 1, 0) = 5
            states(5) = 1 1 1 0 1 1
            make(KIND_UNTIL, 3, 1, 0) = 6
            states(6) = 0 1 1 0 0 0
            """);
    }

    private static void div() {
        RUNS.play("DIV round a cycle", CYCLES + """
            make(KIND_DIV, 3, 0, 0) = 5
            states(5) = 0 1 1 0 0 0
            """);
        RUNS.play("DIV by one silent move from a state to itself", CYCLES + """
            make(KIND_DIV, 4, 0, 0) = 5
            states(5) = 0 0 0 1 0 0
            """);
        RUNS.play("DIV holds also where the path leads into a cycle, and not where it ends", CYCLES + """
            make(KIND_DIV, 0, 0, 0) = 5
            states(5) = 1 1 1 1 0 0
            """);
        RUNS.play("DIV with f holding at u included", CYCLES + """
            make(KIND_NOT, 2, 0, 0) = 5
            make(KIND_DIV, 5, 0, 0) = 6
            states(6) = 0 1 1 1 0 0
            """);
        RUNS.play("DIV with f holding at every state of the path", CYCLES + """
            make(KIND_NOT, 3, 0, 0) = 5
            make(KIND_DIV, 5, 0, 0) = 6
            states(6) = 1 0 0 1 0 0
            make(KIND_NOT, 4, 0, 0) = 7
            make(KIND_AND, 5, 0, 7) = 8
            make(KIND_DIV, 8, 0, 0) = 9
            states(9) = 0 0 0 0 0 0
            make(KIND_DIV, 2, 0, 0) = 10
            states(10) = 0 0 0 0 0 0
            """);
        RUNS.play("DIV where f holds nowhere", CYCLES + """
            make(KIND_DIV, 1, 0, 0) = 5
            states(5) = 0 0 0 0 0 0
            """);
        RUNS.play("DIV: a cycle with a visible move in it is no silent path", """
            new(3, 1, 8, 8)
            addMove(0, 0, 1) = OK
            addMove(1, 1, 0) = OK
            addMove(2, 1, 2) = OK
            minimise() = 1
            make(KIND_TRUE, 0, 0, 0) = 0
            make(KIND_DIV, 0, 0, 0) = 1
            states(1) = 0 0 0
            """);
        RUNS.play("DIV: a long path with an end is not infinite, a cycle of all states is", twelve());
    }

    private static String twelve() {
        StringBuilder script = new StringBuilder("new(12, 1, 32, 8)\n");
        for (int state = 0; state < 11; state++) {
            script.append("addMove(").append(state).append(", 0, ").append(state + 1).append(") = OK\n");
        }
        return script + """
            minimise() = 1
            make(KIND_TRUE, 0, 0, 0) = 0
            make(KIND_DIV, 0, 0, 0) = 1
            states(1) = 0 0 0 0 0 0 0 0 0 0 0 0
            reopen() = OK
            addMove(11, 0, 0) = OK
            minimise() = 1
            make(KIND_TRUE, 0, 0, 0) = 0
            make(KIND_DIV, 0, 0, 0) = 1
            states(1) = 1 1 1 1 1 1 1 1 1 1 1 1
            """;
    }

    private static void madeByTell() {
        RUNS.play("a formula made by tell(s, t) holds at exactly the states of the block of s", CHAIN + """
            states(2) = 1 0 0 0 0 0
            states(3) = 0 1 0 0 0 0
            states(4) = 0 0 1 0 0 0
            states(5) = 0 0 0 1 0 1
            states(6) = 0 0 0 0 1 0
            """);
    }

    private static void changesNothing() {
        RUNS.play("the call changes nothing", CYCLES + """
            holds(0, 0..5) = YES
            holds(1, 0..5) = NO
            holds(5, 0) = BAD
            holds(0, 6) = BAD
            formulaCount() = 5
            states(2) = 1 0 0 0 0 0
            make(KIND_NOT, 2, 0, 0) = 5
            """);
    }
}
