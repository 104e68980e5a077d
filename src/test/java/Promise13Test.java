/** Promise 13: making a formula. */
public final class Promise13Test {
    private static final Runs RUNS = new Runs();

    // State 0 goes by label 1 to 1, state 2 diverges; formulas 0 to 2 hold at 0 1 2, at 0, at 2.
    private static final String THREE_FORMULAS = """
        new(3, 2, 8, 16)
        addMove(0, 1, 1) = OK
        addMove(2, 0, 2) = OK
        minimise() = 3
        make(KIND_TRUE, 0, 0, 0) = 0
        tell(0, 1) = 1
        tell(2, 1) = 2
        """;
    private static final String Q_FORMULAS = """
        new(3, 2, 8, 8)
        addMove(0, 1, 1) = OK
        minimise() = 2
        make(KIND_TRUE, 0, 0, 0) = 0
        make(KIND_NOT, 0, 0, 0) = 1
        tell(0, 1) = 2
        make(KIND_TRUE, 0, 0, 0) = 3
        make(KIND_TRUE, 0, 0, 0) = 4
        make(KIND_TRUE, 0, 0, 0) = 5
        tell(1, 0) = 6
        make(KIND_NOT, 2, 0, 0) = 7
        """;

    public static void main(String[] args) {
        numbers();
        open();
        badKind();
        badOperand();
        badLabel();
        full();
        unused();
        sameOperand();
        noFormulasYet();
        nothingElseChanges();
        RUNS.end();
    }

    private static void numbers() {
        RUNS.play("numbered 0, 1, 2, .. in the order in which they are made, those made by tell included", """
            new(3, 1, 8, 16)
            addMove(0, 1, 1) = OK
            minimise() = 2
            tell(0, 1) = 0
            make(KIND_TRUE, 0, 0, 0) = 1
            make(KIND_NOT, 0, 0, 0) = 2
            tell(1, 0) = 3
            make(KIND_AND, 0, 0, 1) = 4
            make(KIND_UNTIL, 0, 1, 3) = 5
            make(KIND_DIV, 0, 0, 0) = 6
            """);
        RUNS.play("it gets the number formulaCount() had before the call", """
            new(3, 1, 8, 8)
            minimise() = 1
            formulaCount() = 0
            make(KIND_TRUE, 0, 0, 0) = 0
            formulaCount() = 1
            make(KIND_NOT, 5, 0, 0) = BAD
            formulaCount() = 1
            make(KIND_NOT, 0, 0, 0) = 1
            formulaCount() = 2
            """);
        RUNS.play("like formulas get numbers of their own: making the same formula again makes one more formula",
            THREE_FORMULAS + """
            make(KIND_TRUE, 0, 0, 0) = 3
            make(KIND_TRUE, 0, 0, 0) = 4
            make(KIND_NOT, 1, 0, 0) = 5
            make(KIND_NOT, 1, 0, 0) = 6
            make(KIND_AND, 0, 0, 1) = 7
            make(KIND_AND, 0, 0, 1) = 8
            make(KIND_UNTIL, 0, 1, 0) = 9
            make(KIND_UNTIL, 0, 1, 0) = 10
            make(KIND_DIV, 0, 0, 0) = 11
            make(KIND_DIV, 0, 0, 0) = 12
            formulaCount() = 13
            states(4) = 1 1 1
            states(6) = 0 1 1
            states(8) = 1 0 0
            states(10) = 1 0 0
            states(12) = 0 0 1
            """);
    }

    private static void open() {
        RUNS.play("OPEN if the object is open, whatever the arguments are", """
            new(3, 1, 8, 8)
            make(0..4, 0, 0, 0) = OPEN
            make(ANY, ANY, ANY, ANY) = OPEN
            minimise() = 1
            make(KIND_TRUE, 0, 0, 0) = 0
            reopen() = OK
            make(0..4, 0, 0, 0) = OPEN
            make(ANY, ANY, ANY, ANY) = OPEN
            """);
    }

    private static void badKind() {
        RUNS.play("BAD if kind is not in 0 .. 4", THREE_FORMULAS + """
            make(<0, 0..2, 0..2, 0..2) = BAD
            make(>4, 0..2, 0..2, 0..2) = BAD
            make(-1, ANY, ANY, ANY) = BAD
            make(5, ANY, ANY, ANY) = BAD
            formulaCount() = 3
            make(4, 0, 0, 0) = 3
            make(0, 0, 0, 0) = 4
            """);
        RUNS.play("BAD for the kind comes before FULL", Q_FORMULAS + """
            make(<0, 0, 0, 0) = BAD
            make(>4, 0, 0, 0) = BAD
            formulaCount() = 8
            """);
        RUNS.play("BAD for the kind when there are no formulas", """
            new(3, 1, 8, 8)
            minimise() = 1
            make(<0, 0, 0, 0) = BAD
            make(>4, 0, 0, 0) = BAD
            """);
    }

    private static void badOperand() {
        RUNS.play("BAD if the operand of NOT is not in 0 .. formulaCount()-1", THREE_FORMULAS + """
            make(KIND_NOT, <0, 0, 0) = BAD
            make(KIND_NOT, >2, 0, 0) = BAD
            make(KIND_NOT, 0, 0, 0) = 3
            make(KIND_NOT, 3, 0, 0) = 4
            """);
        RUNS.play("BAD if the left operand of AND is not in 0 .. formulaCount()-1", THREE_FORMULAS + """
            make(KIND_AND, <0, 0, 0..2) = BAD
            make(KIND_AND, >2, 0, 0..2) = BAD
            make(KIND_AND, 2, 0, 0) = 3
            """);
        RUNS.play("BAD if the right operand of AND is not in 0 .. formulaCount()-1", THREE_FORMULAS + """
            make(KIND_AND, 0..2, 0, <0) = BAD
            make(KIND_AND, 0..2, 0, >2) = BAD
            make(KIND_AND, 0, 0, 2) = 3
            """);
        RUNS.play("BAD if the left operand of UNTIL is not in 0 .. formulaCount()-1", THREE_FORMULAS + """
            make(KIND_UNTIL, <0, 0..2, 0..2) = BAD
            make(KIND_UNTIL, >2, 0..2, 0..2) = BAD
            make(KIND_UNTIL, 2, 0, 0) = 3
            """);
        RUNS.play("BAD if the right operand of UNTIL is not in 0 .. formulaCount()-1", THREE_FORMULAS + """
            make(KIND_UNTIL, 0..2, 0..2, <0) = BAD
            make(KIND_UNTIL, 0..2, 0..2, >2) = BAD
            make(KIND_UNTIL, 0, 0, 2) = 3
            """);
        RUNS.play("BAD if the operand of DIV is not in 0 .. formulaCount()-1", THREE_FORMULAS + """
            make(KIND_DIV, <0, 0, 0) = BAD
            make(KIND_DIV, >2, 0, 0) = BAD
            make(KIND_DIV, 2, 0, 0) = 3
            make(KIND_DIV, 0, 0, 0) = 4
            """);
        RUNS.play("BAD for an operand comes before FULL", Q_FORMULAS + """
            make(KIND_NOT, <0, 0, 0) = BAD
            make(KIND_NOT, >7, 0, 0) = BAD
            make(KIND_AND, <0, 0, 0) = BAD
            make(KIND_AND, >7, 0, 0) = BAD
            make(KIND_AND, 0, 0, <0) = BAD
            make(KIND_AND, 0, 0, >7) = BAD
            make(KIND_UNTIL, <0, 0, 0) = BAD
            make(KIND_UNTIL, >7, 0, 0) = BAD
            make(KIND_UNTIL, 0, 0, <0) = BAD
            make(KIND_UNTIL, 0, 0, >7) = BAD
            make(KIND_DIV, <0, 0, 0) = BAD
            make(KIND_DIV, >7, 0, 0) = BAD
            formulaCount() = 8
            """);
        RUNS.play("a formula can't have its own number as an operand", THREE_FORMULAS + """
            make(KIND_NOT, 3, 0, 0) = BAD
            make(KIND_AND, 3, 0, 0) = BAD
            make(KIND_AND, 0, 0, 3) = BAD
            make(KIND_UNTIL, 3, 0, 0) = BAD
            make(KIND_UNTIL, 0, 0, 3) = BAD
            make(KIND_DIV, 3, 0, 0) = BAD
            make(KIND_TRUE, 3, 3, 3) = 3
            make(KIND_NOT, 3, 0, 0) = 4
            """);
    }

    private static void badLabel() {
        RUNS.play("BAD if the label of UNTIL is not in 0 .. L", THREE_FORMULAS + """
            make(KIND_UNTIL, 0..2, <0, 0..2) = BAD
            make(KIND_UNTIL, 0..2, >2, 0..2) = BAD
            make(KIND_UNTIL, 0, 0, 0) = 3
            make(KIND_UNTIL, 0, 2, 0) = 4
            """);
        RUNS.play("BAD for the label with the least and the greatest L", """
            new(3, 1, 8, 8)
            minimise() = 1
            make(KIND_TRUE, 0, 0, 0) = 0
            make(KIND_UNTIL, 0, >1, 0) = BAD
            make(KIND_UNTIL, 0, 1, 0) = 1
            new(3, 3, 8, 8)
            minimise() = 1
            make(KIND_TRUE, 0, 0, 0) = 0
            make(KIND_UNTIL, 0, >3, 0) = BAD
            make(KIND_UNTIL, 0, 3, 0) = 1
            """);
        RUNS.play("BAD for the label comes before FULL", Q_FORMULAS + """
            make(KIND_UNTIL, 0, <0, 0) = BAD
            make(KIND_UNTIL, 0, >2, 0) = BAD
            formulaCount() = 8
            """);
    }

    private static void full() {
        RUNS.play("FULL if there are Q formulas, for every kind", Q_FORMULAS + """
            make(KIND_TRUE, 0, 0, 0) = FULL
            make(KIND_NOT, 0..7, 0, 0) = FULL
            make(KIND_AND, 0..7, 0, 0..7) = FULL
            make(KIND_UNTIL, 0..7, 0..2, 0..7) = FULL
            make(KIND_DIV, 0..7, 0, 0) = FULL
            formulaCount() = 8
            states(0) = 1 1 1
            states(1) = 0 0 0
            states(2) = 1 0 0
            states(6) = 0 1 1
            states(7) = 0 1 1
            """);
        RUNS.play("FULL with the greatest Q, and not before", greatestQ());
        RUNS.play("no FULL after reopen() and minimise()", Q_FORMULAS + """
            make(KIND_TRUE, 0, 0, 0) = FULL
            reopen() = OK
            minimise() = 2
            make(KIND_TRUE, 0, 0, 0) = 0
            """);
    }

    private static String greatestQ() {
        StringBuilder script = new StringBuilder("new(3, 1, 8, 32)\nminimise() = 1\nmake(KIND_TRUE, 0, 0, 0) = 0\n");
        for (int formula = 1; formula < 32; formula++) {
            script.append("make(KIND_NOT, ").append(formula - 1).append(", 0, 0) = ").append(formula).append('\n');
        }
        script.append("make(KIND_NOT, 31, 0, 0) = FULL\nmake(KIND_NOT, >31, 0, 0) = BAD\n");
        script.append("formulaCount() = 32\nstates(30) = 1 1 1\nstates(31) = 0 0 0\n");
        return script.toString();
    }

    private static void unused() {
        RUNS.play("arguments that are not used by TRUE may be anything", THREE_FORMULAS + """
            make(KIND_TRUE, MIN, MAX, -1) = 3
            make(KIND_TRUE, -1, -1, MIN) = 4
            make(KIND_TRUE, MAX, 3, 3) = 5
            states(3) = 1 1 1
            states(4) = 1 1 1
            states(5) = 1 1 1
            """);
        RUNS.play("arguments that are not used by NOT may be anything", THREE_FORMULAS + """
            make(KIND_NOT, 1, MIN, MAX) = 3
            make(KIND_NOT, 1, 3, 3) = 4
            make(KIND_NOT, 1, -1, -1) = 5
            make(KIND_NOT, 1, 1, 2) = 6
            states(3) = 0 1 1
            states(4) = 0 1 1
            states(5) = 0 1 1
            states(6) = 0 1 1
            """);
        RUNS.play("arguments that are not used by AND may be anything", THREE_FORMULAS + """
            make(KIND_AND, 0, MIN, 1) = 3
            make(KIND_AND, 0, MAX, 1) = 4
            make(KIND_AND, 0, -1, 1) = 5
            make(KIND_AND, 0, 3, 1) = 6
            states(3) = 1 0 0
            states(4) = 1 0 0
            states(5) = 1 0 0
            states(6) = 1 0 0
            """);
        RUNS.play("arguments that are not used by DIV may be anything", THREE_FORMULAS + """
            make(KIND_DIV, 0, MIN, MAX) = 3
            make(KIND_DIV, 0, 3, 3) = 4
            make(KIND_DIV, 0, -1, -1) = 5
            make(KIND_DIV, 0, 1, 1) = 6
            states(3) = 0 0 1
            states(4) = 0 0 1
            states(5) = 0 0 1
            states(6) = 0 0 1
            """);
        RUNS.play("arguments that are not used may be anything when there are Q formulas", Q_FORMULAS + """
            make(KIND_TRUE, ANY, ANY, ANY) = FULL
            make(KIND_NOT, 0..7, ANY, ANY) = FULL
            make(KIND_AND, 0..7, ANY, 0..7) = FULL
            make(KIND_DIV, 0..7, ANY, ANY) = FULL
            """);
    }

    private static void sameOperand() {
        RUNS.play("left and right may be the same number", THREE_FORMULAS + """
            make(KIND_AND, 1, 0, 1) = 3
            states(3) = 1 0 0
            make(KIND_UNTIL, 2, 0, 2) = 4
            states(4) = 0 0 1
            make(KIND_UNTIL, 0, 1, 0) = 5
            states(5) = 1 0 0
            """);
    }

    private static void noFormulasYet() {
        RUNS.play("while there are no formulas every kind but KIND_TRUE is BAD", """
            new(3, 1, 8, 8)
            minimise() = 1
            make(1..4, 0, 0, 0) = BAD
            make(1..4, ANY, ANY, ANY) = BAD
            formulaCount() = 0
            make(KIND_TRUE, 0, 0, 0) = 0
            make(KIND_NOT, 0, 0, 0) = 1
            reopen() = OK
            minimise() = 1
            make(1..4, 0, 0, 0) = BAD
            make(1..4, 1, 0, 1) = BAD
            make(KIND_TRUE, 0, 0, 0) = 0
            """);
    }

    private static void nothingElseChanges() {
        RUNS.play("earlier formulas keep their numbers and meaning, and moves, blocks and quotient stay",
            THREE_FORMULAS + """
            make(KIND_NOT, 1, 0, 0) = 3
            make(KIND_AND, 3, 0, 0) = 4
            make(KIND_UNTIL, 0, 1, 3) = 5
            make(KIND_DIV, 0, 0, 0) = 6
            make(KIND_TRUE, 0, 0, 0) = 7
            states(0) = 1 1 1
            states(1) = 1 0 0
            states(2) = 0 0 1
            states(3) = 0 1 1
            states(4) = 0 1 1
            states(5) = 1 0 0
            states(6) = 0 0 1
            states(7) = 1 1 1
            moves() = 0.1.1 2.0.2
            blocks() = 0 1 2
            quotient() = 0.1.1 2.0.2
            """);
    }
}
