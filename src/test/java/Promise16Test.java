/** Promise 16: the number of formulas. */
public final class Promise16Test {
    private static final Runs RUNS = new Runs();

    public static void main(String[] args) {
        RUNS.play("works both open and minimised", """
            new(3, 1, 8, 8)
            formulaCount() = 0
            minimise() = 1
            formulaCount() = 0
            make(KIND_TRUE, 0, 0, 0) = 0
            formulaCount() = 1
            reopen() = OK
            formulaCount() = 0
            """);
        RUNS.play("the number of formulas, those made by tell included", """
            new(3, 1, 8, 8)
            addMove(0, 1, 1) = OK
            minimise() = 2
            tell(0, 1) = 0
            formulaCount() = 1
            make(KIND_NOT, 0, 0, 0) = 1
            formulaCount() = 2
            tell(1, 0) = 2
            formulaCount() = 3
            """);
        RUNS.play("every number of formulas up to Q", upToQ());
        RUNS.play("it is 0 if the object is open", """
            new(3, 1, 8, 8)
            formulaCount() = 0
            make(KIND_TRUE, 0, 0, 0) = OPEN
            formulaCount() = 0
            addMove(0, 1, 1) = OK
            formulaCount() = 0
            minimise() = 2
            tell(0, 1) = 0
            tell(0, 1) = 1
            reopen() = OK
            formulaCount() = 0
            tell(0, 1) = OPEN
            formulaCount() = 0
            """);
        RUNS.play("and 0 right after minimise() has made the object minimised", """
            new(3, 1, 8, 8)
            minimise() = 1
            formulaCount() = 0
            make(KIND_TRUE, 0, 0, 0) = 0
            reopen() = OK
            minimise() = 1
            formulaCount() = 0
            """);
        RUNS.play("but not after a minimise() that answers CLOSED", """
            new(3, 1, 8, 8)
            minimise() = 1
            make(KIND_TRUE, 0, 0, 0) = 0
            minimise() = CLOSED
            formulaCount() = 1
            """);
        RUNS.play("a refused call counts no formula", """
            new(3, 1, 8, 8)
            addMove(0, 1, 1) = OK
            minimise() = 2
            make(KIND_TRUE, 0, 0, 0) = 0
            make(KIND_NOT, 1, 0, 0) = BAD
            formulaCount() = 1
            make(5, 0, 0, 0) = BAD
            formulaCount() = 1
            tell(1, 2) = SAME
            formulaCount() = 1
            tell(3, 0) = BAD
            formulaCount() = 1
            reopen() = OK
            reopen() = OPEN
            formulaCount() = 0
            """);
        RUNS.play("it changes nothing", """
            new(3, 1, 8, 8)
            addMove(0, 1, 1) = OK
            minimise() = 2
            tell(0, 1) = 0
            formulaCount() = 1
            formulaCount() = 1
            states(0) = 1 0 0
            tell(1, 0) = 1
            """);
        RUNS.end();
    }

    private static String upToQ() {
        StringBuilder script = new StringBuilder("new(3, 1, 8, 32)\nminimise() = 1\nformulaCount() = 0\n");
        for (int formula = 0; formula < 32; formula++) {
            script.append("make(KIND_TRUE, 0, 0, 0) = ").append(formula).append('\n');
            script.append("formulaCount() = ").append(formula + 1).append('\n');
        }
        return script.append("make(KIND_TRUE, 0, 0, 0) = FULL\nformulaCount() = 32\n").toString();
    }
}
