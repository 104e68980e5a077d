import java.util.ArrayList;
import java.util.List;

/**
 * A run of calls through all that an object can be: without moves, with some and
 * with M, minimised with no formula, with some and with Q, and opened again.
 */
final class Life {
    record Call(String name, int... args) {}

    private final int n;
    private final int l;
    private final int m;
    private final int q;
    private final List<Call> calls = new ArrayList<>();

    private Life(int[] sizes) {
        n = sizes[0];
        l = sizes[1];
        m = sizes[2];
        q = sizes[3];
    }

    /** The four sizes must be such that the constructor leaves them as they are. */
    static List<Call> of(int... sizes) {
        Life life = new Life(sizes);
        life.minimiseAndMake(3);
        life.add("reopen");
        life.moves("addMove", 0, life.m);
        life.moves("removeMove", 2, 5);
        life.minimiseAndMake(life.q / 2);
        life.fillUp();
        life.add("reopen");
        life.moves("addMove", 2, 4);
        life.moves("removeMove", 0, 1);
        life.moves("addMove", life.m, life.m + 2);
        life.minimiseAndMake(5);
        life.add("reopen");
        life.moves("removeMove", 0, life.m + 2);
        life.minimiseAndMake(1);
        return life.calls;
    }

    private void add(String name, int... args) {
        calls.add(new Call(name, args));
    }

    // Far apart in the order of all moves, so that they are of all kinds.
    private void moves(String name, int first, int end) {
        int possible = n * (l + 1) * n;
        for (int number = first; number < end; number++) {
            int move = number * 7 % possible;
            add(name, move % n, move / n % (l + 1), move / n / (l + 1));
        }
    }

    // More than enough: some of the calls before may have been refused.
    private void fillUp() {
        for (int formula = 0; formula < q; formula++) {
            add("make", BranchingBisim.KIND_TRUE, 0, 0, 0);
        }
    }

    private void minimiseAndMake(int formulas) {
        add("minimise");
        add("make", BranchingBisim.KIND_TRUE, 0, 0, 0);
        for (int formula = 1; formula < formulas; formula++) {
            if (formula % 3 == 0) {
                add("tell", formula % n, (formula + 1) % n);
            } else {
                add("make", 1 + formula % 4, formula / 2, formula % (l + 1), formula / 3);
            }
        }
    }
}
