import java.util.Arrays;

/**
 * Promises 1 to 16 on many systems and long runs of calls, against the model.
 * The choices follow a fixed sequence, so every run of the test is the same.
 */
public final class ModelTest {
    private static final Check CHECK = new Check();
    private static final int[] EDGES = {
        Integer.MIN_VALUE, Integer.MIN_VALUE + 1, -33, -2, -1, 2, 3, 4, 7, 8, 9, 11, 12, 13,
        31, 32, 33, 64, 1 << 16, Integer.MAX_VALUE - 1, Integer.MAX_VALUE
    };

    private static long chosen = 20261115L;

    public static void main(String[] args) {
        everySystem(2, 1);
        everySystem(2, 2);
        someSystems(3, 1, 1500);
        someSystems(4, 1, 600);
        someSystems(5, 2, 200);
        theTwoWaysToTheBlocksAgree(300);
        for (int states = 6; states <= 12; states++) {
            someSystems(states, 1 + states % 3, 100);
        }
        for (int run = 0; run < 300; run++) {
            mixedCalls();
        }
        CHECK.end();
    }

    private static int choose(int end) {
        chosen = chosen * 6364136223846793005L + 1442695040888963407L;
        return (int) ((chosen >>> 33) % end);
    }

    private static void everySystem(int states, int labels) {
        int possible = states * (labels + 1) * states;
        for (int system = 0; system < 1 << possible; system++) {
            Pair pair = new Pair(CHECK, states, labels, 32, 16);
            for (int move = 0; move < possible; move++) {
                if ((system >> move & 1) != 0) {
                    pair.call("addMove", move % states, move / states / states, move / states % states);
                }
            }
            minimiseAndAsk(pair, states, labels);
        }
    }

    private static void someSystems(int states, int labels, int many) {
        for (int system = 0; system < many; system++) {
            Pair pair = new Pair(CHECK, states, labels, 32, 24);
            addSomeMoves(pair, states, labels);
            minimiseAndAsk(pair, states, labels);
        }
    }

    // Silent moves and few targets are preferred: then more states share a block.
    private static void addSomeMoves(Pair pair, int states, int labels) {
        int moves = choose(2 * states + 4);
        int targets = 1 + choose(states);
        for (int move = 0; move < moves; move++) {
            int label = choose(2) * choose(labels + 1);
            pair.call("addMove", choose(states), label, label == 0 ? choose(states) : choose(targets));
        }
    }

    private static void minimiseAndAsk(Pair pair, int states, int labels) {
        pair.call("minimise");
        pair.call("make", BranchingBisim.KIND_TRUE, 0, 0, 0);
        pair.call("make", BranchingBisim.KIND_NOT, 0, 0, 0);
        for (int state = 0; state < states; state++) {
            pair.call("tell", state, choose(states));
        }
        for (int formula = 0; formula < 10; formula++) {
            int made = pair.model().formulaCount();
            pair.call("make", 1 + choose(4), choose(made), choose(labels + 1), choose(made));
        }
        pair.askEverything();
        noFormulaPartsABlock(pair.model(), states);
    }

    // If this failed, the document's logic and its blocks would not fit together.
    private static void noFormulaPartsABlock(Model model, int states) {
        for (int formula = 0; formula < model.formulaCount(); formula++) {
            for (int s = 0; s < states; s++) {
                int leader = model.leader(model.blockOf(s));
                CHECK.due("the model", "holds", model.holds(formula, s), model.holds(formula, leader));
            }
        }
    }

    private static void theTwoWaysToTheBlocksAgree(int many) {
        for (int system = 0; system < many; system++) {
            int states = 2 + choose(5);
            Pair pair = new Pair(CHECK, states, 2, 32, 8);
            addSomeMoves(pair, states, 2);
            Model model = pair.model();
            CHECK.due("the model", "blocks", Arrays.toString(model.blocksByRounds()),
                Arrays.toString(model.blocksByAllPartitions()));
        }
    }

    private static void mixedCalls() {
        Pair pair = new Pair(CHECK, choose(4) == 0 ? edge() : choose(16), choose(4) == 0 ? edge() : choose(6),
            choose(4) == 0 ? edge() : choose(40), choose(4) == 0 ? edge() : choose(40));
        for (int call = 0; call < 150; call++) {
            oneCall(pair);
            if (call % 10 == 0) {
                pair.askEverything();
            }
        }
        pair.askEverything();
    }

    private static void oneCall(Pair pair) {
        boolean open = pair.model().blockCount() == BranchingBisim.OPEN;
        switch (choose(open ? 30 : 60)) {
            case 0 -> pair.call("minimise");
            case 1 -> pair.call("reopen");
            case 2, 3, 4 -> pair.call("removeMove", number(12), number(4), number(12));
            case 5 -> pair.call("blockOf", number(12));
            case 6 -> pair.call("leader", number(12));
            case 7 -> pair.call("quotientMove", number(12), number(4), number(12));
            case 8 -> pair.call("hasMove", number(12), number(4), number(12));
            case 9 -> pair.call("holds", number(32), number(12));
            case 10, 11, 12, 13, 14, 15 -> pair.call("tell", number(12), number(12));
            case 16, 17, 18, 19, 20, 21, 22, 23 -> pair.call("addMove", number(12), number(4), number(12));
            case 24, 25, 26, 27, 28, 29 -> pair.call(open ? "addMove" : "tell",
                open ? new int[] {number(12), 0, number(12)} : new int[] {number(12), number(12)});
            default -> pair.call("make", number(5), number(12), number(4), number(12));
        }
    }

    private static int number(int end) {
        return choose(12) == 0 ? edge() : choose(end);
    }

    private static int edge() {
        return EDGES[choose(EDGES.length)];
    }
}
