import java.util.Set;
import java.util.TreeSet;

/**
 * "A refused call changes nothing", and neither does a call that only asks: of two
 * objects that lead the same life, one gets hundreds of such calls between any two
 * calls, and still the two answer alike and look alike all along.
 */
public final class RefusedTest {
    private static final Check CHECK = new Check();
    private static final int LEAST_REFUSAL = 101;
    private static final int[] KINDS = {-1, 0, 1, 2, 3, 4, 5, Integer.MIN_VALUE};
    private static final Set<String> ALL_REFUSALS = Set.of(
        "addMove 103", "addMove 101", "addMove 105", "addMove 104", "removeMove 103", "removeMove 101",
        "removeMove 106", "hasMove 101", "minimise 103", "reopen 102", "blockCount 102", "blockOf 102",
        "blockOf 101", "leader 102", "leader 101", "quotientMove 102", "quotientMove 101",
        "quotientMoveCount 102", "make 102", "make 101", "make 104", "tell 102", "tell 101", "tell 107",
        "tell 104", "holds 102", "holds 101");
    private static final Set<String> SEEN = new TreeSet<>();

    private final Pair busy;
    private final int[] states;
    private final int[] labels;
    private int refused;

    public static void main(String[] args) {
        twins(2, 1, 8, 8);
        twins(3, 2, 9, 10);
        twins(5, 2, 11, 13);
        twins(12, 3, 32, 32);
        CHECK.due("this test", "refusals that it made", SEEN, ALL_REFUSALS);
        CHECK.end();
    }

    private RefusedTest(int... sizes) {
        busy = new Pair(CHECK, sizes);
        states = new int[] {-1, 0, 1, sizes[0] - 1, sizes[0], 32, Integer.MIN_VALUE, Integer.MAX_VALUE};
        labels = new int[] {-1, 0, sizes[1], sizes[1] + 1, Integer.MIN_VALUE, Integer.MAX_VALUE};
    }

    private static void twins(int... sizes) {
        CHECK.begin();
        BranchingBisim calm = new BranchingBisim(sizes[0], sizes[1], sizes[2], sizes[3]);
        RefusedTest test = new RefusedTest(sizes);
        for (Life.Call call : Life.of(sizes)) {
            test.disturb();
            String where = "after " + test.refused + " refused calls";
            int due = Calls.call(calm, call.name(), call.args());
            CHECK.due(where, Calls.text(call.name(), call.args()), test.busy.call(call.name(), call.args()), due);
            CHECK.isTrue(where, "looks alike", Picture.of(test.busy.program()).isLike(Picture.of(calm)));
        }
    }

    private void disturb() {
        Picture before = Picture.of(busy.program());
        callIfRefused("minimise");
        callIfRefused("reopen");
        callIfRefused("blockCount");
        callIfRefused("quotientMoveCount");
        disturbMoves();
        disturbFormulas();
        busy.askEverything();
        CHECK.isTrue("refused calls", "change nothing", Picture.of(busy.program()).isLike(before));
    }

    private void disturbMoves() {
        for (int from : states) {
            callIfRefused("blockOf", from);
            callIfRefused("leader", from);
            for (int to : states) {
                callIfRefused("tell", from, to);
                callIfRefused("holds", from, to);
                for (int label : labels) {
                    callIfRefused("addMove", from, label, to);
                    callIfRefused("removeMove", from, label, to);
                    callIfRefused("hasMove", from, label, to);
                    callIfRefused("quotientMove", from, label, to);
                }
            }
        }
    }

    private void disturbFormulas() {
        int count = busy.model().formulaCount();
        int[] operands = {-1, 0, count - 1, count};
        for (int kind : KINDS) {
            for (int left : operands) {
                for (int right : operands) {
                    for (int label : labels) {
                        callIfRefused("make", kind, left, label, right);
                    }
                }
            }
        }
    }

    private void callIfRefused(String name, int... args) {
        int answer = Calls.call(busy.model().copy(), name, args);
        if (answer >= LEAST_REFUSAL) {
            busy.call(name, args);
            refused++;
            SEEN.add(name + " " + answer);
        }
    }
}
