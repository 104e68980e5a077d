import java.util.ArrayList;
import java.util.Arrays;
import java.util.List;

/**
 * A second BranchingBisim, for comparison: it follows the document's words by
 * searching for paths one state at a time, and finds the blocks of a small system
 * by looking at every partition there is.
 */
final class Model {
    private static final int ALL_PARTITIONS_UP_TO = 5;

    private final int n;
    private final int l;
    private final int m;
    private final int q;
    private final boolean[][][] moves;
    private final List<boolean[]> formulas = new ArrayList<>();
    private boolean open = true;
    private int[] blocks = new int[0];

    Model(int states, int labels, int moveRoom, int formulaRoom) {
        n = Math.max(2, Math.min(12, states));
        l = Math.max(1, Math.min(3, labels));
        m = Math.max(8, Math.min(32, moveRoom));
        q = Math.max(8, Math.min(32, formulaRoom));
        moves = new boolean[n][l + 1][n];
    }

    /** For asking what a call would answer, without making it. */
    Model copy() {
        Model copy = new Model(n, l, m, q);
        for (int s = 0; s < n; s++) {
            for (int label = 0; label <= l; label++) {
                copy.moves[s][label] = moves[s][label].clone();
            }
        }
        copy.formulas.addAll(formulas);
        copy.open = open;
        copy.blocks = blocks;
        return copy;
    }

    int states() {
        return n;
    }

    int labels() {
        return l;
    }

    int addMove(int from, int label, int to) {
        if (!open) return BranchingBisim.CLOSED;
        if (badMove(from, label, to)) return BranchingBisim.BAD;
        if (moves[from][label][to]) return BranchingBisim.PRESENT;
        if (moveCount() == m) return BranchingBisim.FULL;
        moves[from][label][to] = true;
        return BranchingBisim.OK;
    }

    int removeMove(int from, int label, int to) {
        if (!open) return BranchingBisim.CLOSED;
        if (badMove(from, label, to)) return BranchingBisim.BAD;
        if (!moves[from][label][to]) return BranchingBisim.ABSENT;
        moves[from][label][to] = false;
        return BranchingBisim.OK;
    }

    int hasMove(int from, int label, int to) {
        if (badMove(from, label, to)) return BranchingBisim.BAD;
        return answer(moves[from][label][to]);
    }

    int moveCount() {
        int count = 0;
        for (boolean[][] ofState : moves) {
            for (boolean[] ofLabel : ofState) {
                for (boolean there : ofLabel) {
                    if (there) count++;
                }
            }
        }
        return count;
    }

    int minimise() {
        if (!open) return BranchingBisim.CLOSED;
        open = false;
        blocks = n <= ALL_PARTITIONS_UP_TO ? blocksByAllPartitions() : blocksByRounds();
        return blockCount();
    }

    int reopen() {
        if (open) return BranchingBisim.OPEN;
        open = true;
        formulas.clear();
        return BranchingBisim.OK;
    }

    int blockCount() {
        return open ? BranchingBisim.OPEN : count(blocks);
    }

    int blockOf(int state) {
        if (open) return BranchingBisim.OPEN;
        return outside(state, n) ? BranchingBisim.BAD : blocks[state];
    }

    int leader(int block) {
        if (open) return BranchingBisim.OPEN;
        if (outside(block, blockCount())) return BranchingBisim.BAD;
        int state = 0;
        while (blocks[state] != block) state++;
        return state;
    }

    int quotientMove(int from, int label, int to) {
        if (open) return BranchingBisim.OPEN;
        if (outside(from, blockCount()) || outside(label, l + 1) || outside(to, blockCount())) {
            return BranchingBisim.BAD;
        }
        boolean there = false;
        for (int s = 0; s < n; s++) {
            if (blocks[s] != from) continue;
            if (label == 0 && from == to) {
                there |= diverges(members(blocks, from), s);
            } else {
                there |= stepsInto(s, label, members(blocks, to));
            }
        }
        return answer(there);
    }

    int quotientMoveCount() {
        if (open) return BranchingBisim.OPEN;
        int sum = 0;
        for (int from = 0; from < blockCount(); from++) {
            for (int label = 0; label <= l; label++) {
                for (int to = 0; to < blockCount(); to++) {
                    sum += quotientMove(from, label, to);
                }
            }
        }
        return sum;
    }

    int make(int kind, int left, int label, int right) {
        if (open) return BranchingBisim.OPEN;
        boolean badLeft = outside(left, formulas.size());
        boolean badRight = outside(right, formulas.size());
        boolean bad = switch (kind) {
            case BranchingBisim.KIND_TRUE -> false;
            case BranchingBisim.KIND_NOT, BranchingBisim.KIND_DIV -> badLeft;
            case BranchingBisim.KIND_AND -> badLeft || badRight;
            case BranchingBisim.KIND_UNTIL -> badLeft || badRight || outside(label, l + 1);
            default -> true;
        };
        if (bad) return BranchingBisim.BAD;
        if (formulas.size() == q) return BranchingBisim.FULL;
        boolean[] made = new boolean[n];
        for (int u = 0; u < n; u++) {
            made[u] = switch (kind) {
                case BranchingBisim.KIND_NOT -> !formulas.get(left)[u];
                case BranchingBisim.KIND_AND -> formulas.get(left)[u] && formulas.get(right)[u];
                case BranchingBisim.KIND_UNTIL -> until(formulas.get(left), u, label, formulas.get(right));
                case BranchingBisim.KIND_DIV -> diverges(formulas.get(left), u);
                default -> true;
            };
        }
        formulas.add(made);
        return formulas.size() - 1;
    }

    int tell(int s, int t) {
        if (open) return BranchingBisim.OPEN;
        if (outside(s, n) || outside(t, n)) return BranchingBisim.BAD;
        if (blocks[s] == blocks[t]) return BranchingBisim.SAME;
        if (formulas.size() == q) return BranchingBisim.FULL;
        formulas.add(members(blocks, blocks[s]));
        return formulas.size() - 1;
    }

    int holds(int formula, int state) {
        if (open) return BranchingBisim.OPEN;
        if (outside(formula, formulas.size()) || outside(state, n)) return BranchingBisim.BAD;
        return answer(formulas.get(formula)[state]);
    }

    int formulaCount() {
        return formulas.size();
    }

    /** Two states share a block exactly if they share a class of some stable partition. */
    int[] blocksByAllPartitions() {
        boolean[][] together = new boolean[n][n];
        int[] partition = new int[n];
        do {
            if (isStable(partition)) {
                for (int s = 0; s < n; s++) {
                    for (int t = 0; t < n; t++) {
                        together[s][t] |= partition[s] == partition[t];
                    }
                }
            }
        } while (nextPartition(partition));
        int[] found = new int[n];
        int next = 0;
        for (int s = 0; s < n; s++) {
            int first = 0;
            while (!together[s][first]) first++;
            found[s] = first == s ? next++ : found[first];
        }
        return found;
    }

    /** Parts all states by everything that conditions (1) and (2) look at, until nothing changes. */
    int[] blocksByRounds() {
        int[] found = new int[n];
        while (true) {
            List<String> seen = new ArrayList<>();
            int[] next = new int[n];
            for (int s = 0; s < n; s++) {
                String looks = looks(found, s);
                if (!seen.contains(looks)) seen.add(looks);
                next[s] = seen.indexOf(looks);
            }
            if (Arrays.equals(found, next)) return found;
            found = next;
        }
    }

    boolean isStable(int[] partition) {
        for (int s = 0; s < n; s++) {
            for (int t = 0; t < s; t++) {
                if (partition[s] == partition[t] && !looks(partition, s).equals(looks(partition, t))) {
                    return false;
                }
            }
        }
        return true;
    }

    private String looks(int[] partition, int s) {
        boolean[] inside = members(partition, partition[s]);
        StringBuilder looks = new StringBuilder().append(partition[s]).append(':');
        looks.append(diverges(inside, s) ? '1' : '0');
        for (int label = 0; label <= l; label++) {
            for (int c = 0; c < count(partition); c++) {
                if (label >= 1 || c != partition[s]) {
                    looks.append(pathThenStep(inside, s, label, members(partition, c)) ? '1' : '0');
                }
            }
        }
        return looks.toString();
    }

    /** The next one in the order of all partitions whose classes are numbered by first states. */
    private static boolean nextPartition(int[] partition) {
        for (int s = partition.length - 1; s > 0; s--) {
            int greatest = count(Arrays.copyOf(partition, s));
            if (partition[s] < greatest) {
                partition[s]++;
                Arrays.fill(partition, s + 1, partition.length, 0);
                return true;
            }
        }
        return false;
    }

    private boolean until(boolean[] f, int u, int label, boolean[] g) {
        return label == 0 && g[u] || pathThenStep(f, u, label, g);
    }

    private boolean pathThenStep(boolean[] f, int u, int label, boolean[] g) {
        boolean[] reached = reached(f, u);
        for (int v = 0; v < n; v++) {
            if (reached[v] && stepsInto(v, label, g)) return true;
        }
        return false;
    }

    /** There are finitely many states, so an infinite path goes round a cycle. */
    private boolean diverges(boolean[] f, int u) {
        boolean[] reached = reached(f, u);
        for (int v = 0; v < n; v++) {
            for (int w = 0; w < n; w++) {
                if (reached[v] && moves[v][0][w] && reached(f, w)[v]) return true;
            }
        }
        return false;
    }

    private boolean[] reached(boolean[] f, int u) {
        boolean[] reached = new boolean[n];
        visit(f, u, reached);
        return reached;
    }

    private void visit(boolean[] f, int u, boolean[] reached) {
        if (!f[u] || reached[u]) return;
        reached[u] = true;
        for (int v = 0; v < n; v++) {
            if (moves[u][0][v]) visit(f, v, reached);
        }
    }

    private boolean stepsInto(int u, int label, boolean[] g) {
        for (int v = 0; v < n; v++) {
            if (moves[u][label][v] && g[v]) return true;
        }
        return false;
    }

    private boolean badMove(int from, int label, int to) {
        return outside(from, n) || outside(label, l + 1) || outside(to, n);
    }

    private static boolean outside(int value, int end) {
        return value < 0 || value >= end;
    }

    private static int count(int[] partition) {
        return Arrays.stream(partition).max().orElse(-1) + 1;
    }

    private static boolean[] members(int[] partition, int number) {
        boolean[] members = new boolean[partition.length];
        for (int s = 0; s < partition.length; s++) {
            members[s] = partition[s] == number;
        }
        return members;
    }

    private static int answer(boolean truth) {
        return truth ? BranchingBisim.YES : BranchingBisim.NO;
    }
}
