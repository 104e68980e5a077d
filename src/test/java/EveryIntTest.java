import java.util.List;

/**
 * "Every int is accepted as an argument of every method and gets the answer given
 * here, negative and very large values included": at points all along an object's
 * life each argument of each method is tried with ints of all sizes, against the model.
 */
public final class EveryIntTest {
    private static final Check CHECK = new Check();
    private static final int SCATTERED = 200;
    private static final Life.Call[] GOOD = {
        new Life.Call("addMove", 1, 0, 1), new Life.Call("removeMove", 1, 0, 1), new Life.Call("hasMove", 1, 0, 1),
        new Life.Call("blockOf", 0), new Life.Call("leader", 0), new Life.Call("quotientMove", 0, 0, 0),
        new Life.Call("make", BranchingBisim.KIND_TRUE, 0, 0, 0), new Life.Call("make", BranchingBisim.KIND_NOT, 0, 0, 0),
        new Life.Call("make", BranchingBisim.KIND_AND, 0, 0, 0), new Life.Call("make", BranchingBisim.KIND_UNTIL, 0, 0, 0),
        new Life.Call("make", BranchingBisim.KIND_DIV, 0, 0, 0), new Life.Call("tell", 0, 1), new Life.Call("holds", 0, 1)
    };

    public static void main(String[] args) {
        alongTheLife(2, 1, 8, 8);
        alongTheLife(5, 2, 11, 13);
        alongTheLife(12, 3, 32, 32);
        CHECK.end();
    }

    private static void alongTheLife(int... sizes) {
        List<Life.Call> life = Life.of(sizes);
        for (int point = 0; point <= life.size(); point += 4) {
            for (Life.Call good : GOOD) {
                CHECK.begin();
                everyArgument(sizes, life.subList(0, point), good);
            }
        }
    }

    private static void everyArgument(int[] sizes, List<Life.Call> before, Life.Call good) {
        for (int place = 0; place < good.args().length; place++) {
            Pair pair = new Pair(CHECK, sizes);
            before.forEach(call -> pair.call(call.name(), call.args()));
            int[] args = good.args().clone();
            for (int value : Ints.all()) {
                args[place] = value;
                pair.call(good.name(), args);
            }
            // Far from all edges: odd steps through the ints that never meet again.
            for (int step = 1; step <= SCATTERED; step++) {
                args[place] = step * 0x9E3779B1;
                pair.call(good.name(), args);
            }
            pair.askEverything();
        }
    }
}
