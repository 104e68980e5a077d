/**
 * A small labelled transition system with silent moves, its blocks by
 * divergence-sensitive branching bisimilarity, and formulas over its states.
 *
 * The states are so few that every set of them fits into the bits of one int
 * (bit s for state s): moves, blocks and formulas are all kept as such sets.
 */
public final class BranchingBisim {
    public static final int OK = 0;
    public static final int NO = 0;
    public static final int YES = 1;

    public static final int BAD = 101;
    public static final int OPEN = 102;
    public static final int CLOSED = 103;
    public static final int FULL = 104;
    public static final int PRESENT = 105;
    public static final int ABSENT = 106;
    public static final int SAME = 107;

    public static final int KIND_TRUE = 0;
    public static final int KIND_NOT = 1;
    public static final int KIND_AND = 2;
    public static final int KIND_UNTIL = 3;
    public static final int KIND_DIV = 4;

    public static final int MAX_STATES = 12;
    public static final int MAX_LABELS = 3;
    public static final int MAX_MOVES = 32;
    public static final int MAX_FORMULAS = 32;

    private static final int MIN_STATES = 2;
    private static final int MIN_LABELS = 1;
    private static final int MIN_MOVES = 8;
    private static final int MIN_FORMULAS = 8;

    private static final int SILENT = 0;
    private static final int MOVE_ROWS = (MAX_LABELS + 1) * MAX_STATES;

    private final int stateLimit;
    private final int labelLimit;
    private final int moveLimit;
    private final int formulaLimit;

    // A row for each label and state; "row" tells where it lies.
    private final int[] targets = new int[MOVE_ROWS];
    private int moveTotal;

    private boolean minimised;
    private final int[] blockStates = new int[MAX_STATES];
    private int blockTotal;

    // The moves are fixed while there are formulas, so the set of states at
    // which a formula holds never changes and is all that is kept of it.
    private final int[] formulaStates = new int[MAX_FORMULAS];
    private int formulaTotal;

    public BranchingBisim(int states, int labels, int moves, int formulas) {
        stateLimit = clamp(states, MIN_STATES, MAX_STATES);
        labelLimit = clamp(labels, MIN_LABELS, MAX_LABELS);
        moveLimit = clamp(moves, MIN_MOVES, MAX_MOVES);
        formulaLimit = clamp(formulas, MIN_FORMULAS, MAX_FORMULAS);
    }

    public int addMove(int from, int label, int to) {
        if (minimised) {
            return CLOSED;
        }
        if (!isState(from) || !isLabel(label) || !isState(to)) {
            return BAD;
        }
        if (moveIsThere(from, label, to)) {
            return PRESENT;
        }
        if (moveTotal >= moveLimit) {
            return FULL;
        }
        targets[row(from, label)] |= 1 << to;
        moveTotal++;
        return OK;
    }

    public int removeMove(int from, int label, int to) {
        if (minimised) {
            return CLOSED;
        }
        if (!isState(from) || !isLabel(label) || !isState(to)) {
            return BAD;
        }
        if (!moveIsThere(from, label, to)) {
            return ABSENT;
        }
        targets[row(from, label)] &= ~(1 << to);
        moveTotal--;
        return OK;
    }

    public int hasMove(int from, int label, int to) {
        if (!isState(from) || !isLabel(label) || !isState(to)) {
            return BAD;
        }
        return moveIsThere(from, label, to) ? YES : NO;
    }

    public int moveCount() {
        return moveTotal;
    }

    public int minimise() {
        if (minimised) {
            return CLOSED;
        }
        findBlocks();
        orderBlocksByLeastState();
        minimised = true;
        return blockTotal;
    }

    public int reopen() {
        if (!minimised) {
            return OPEN;
        }
        // Formulas are forgotten here alone: an open object never has any.
        minimised = false;
        formulaTotal = 0;
        return OK;
    }

    public int blockCount() {
        return minimised ? blockTotal : OPEN;
    }

    public int blockOf(int state) {
        if (!minimised) {
            return OPEN;
        }
        if (!isState(state)) {
            return BAD;
        }
        return blockWith(state);
    }

    public int leader(int block) {
        if (!minimised) {
            return OPEN;
        }
        if (!isBlock(block)) {
            return BAD;
        }
        return leastState(blockStates[block]);
    }

    public int quotientMove(int from, int label, int to) {
        if (!minimised) {
            return OPEN;
        }
        if (!isBlock(from) || !isLabel(label) || !isBlock(to)) {
            return BAD;
        }
        return blockMoves(from, label, to) ? YES : NO;
    }

    public int quotientMoveCount() {
        if (!minimised) {
            return OPEN;
        }
        int count = 0;
        for (int from = 0; from < blockTotal; from++) {
            for (int label = 0; label <= labelLimit; label++) {
                for (int to = 0; to < blockTotal; to++) {
                    if (blockMoves(from, label, to)) {
                        count++;
                    }
                }
            }
        }
        return count;
    }

    public int make(int kind, int left, int label, int right) {
        if (!minimised) {
            return OPEN;
        }
        if (kind < KIND_TRUE || kind > KIND_DIV) {
            return BAD;
        }
        if (kind != KIND_TRUE && !isFormula(left)) {
            return BAD;
        }
        if ((kind == KIND_AND || kind == KIND_UNTIL) && !isFormula(right)) {
            return BAD;
        }
        if (kind == KIND_UNTIL && !isLabel(label)) {
            return BAD;
        }
        if (formulaTotal >= formulaLimit) {
            return FULL;
        }
        int states = statesOfForm(kind, left, label, right);
        return keepFormula(states);
    }

    public int tell(int s, int t) {
        if (!minimised) {
            return OPEN;
        }
        if (!isState(s) || !isState(t)) {
            return BAD;
        }
        int block = blockWith(s);
        if (block == blockWith(t)) {
            return SAME;
        }
        if (formulaTotal >= formulaLimit) {
            return FULL;
        }
        // A formula in the five forms with just these states: see cutBlock.
        return keepFormula(blockStates[block]);
    }

    public int holds(int formula, int state) {
        if (!minimised) {
            return OPEN;
        }
        if (!isFormula(formula) || !isState(state)) {
            return BAD;
        }
        return contains(formulaStates[formula], state) ? YES : NO;
    }

    public int formulaCount() {
        return formulaTotal;
    }

    private static int clamp(int value, int least, int greatest) {
        if (value < least) {
            return least;
        }
        return value > greatest ? greatest : value;
    }

    private static int row(int state, int label) {
        return label * MAX_STATES + state;
    }

    private static boolean contains(int states, int state) {
        return (states >> state & 1) != 0;
    }

    private static int leastState(int states) {
        int least = 0;
        for (int state = MAX_STATES - 1; state >= 0; state--) {
            if (contains(states, state)) {
                least = state;
            }
        }
        return least;
    }

    private boolean isState(int state) {
        return state >= 0 && state < stateLimit;
    }

    private boolean isLabel(int label) {
        return label >= 0 && label <= labelLimit;
    }

    private boolean isBlock(int block) {
        return block >= 0 && block < blockTotal;
    }

    private boolean isFormula(int formula) {
        return formula >= 0 && formula < formulaTotal;
    }

    private boolean moveIsThere(int from, int label, int to) {
        int reached = targets[row(from, label)];
        return contains(reached, to);
    }

    private int allStates() {
        return (1 << stateLimit) - 1;
    }

    private int statesMovingInto(int label, int states) {
        int movers = 0;
        for (int state = 0; state < stateLimit; state++) {
            if ((targets[row(state, label)] & states) != 0) {
                movers |= 1 << state;
            }
        }
        return movers;
    }

    private int untilStates(int f, int label, int g) {
        int found = f & statesMovingInto(label, g);
        // A shortest silent path visits no state twice, so as many steps as
        // there are states reach back to the start of every path.
        for (int step = 0; step < stateLimit; step++) {
            found |= f & statesMovingInto(SILENT, found);
        }
        // By the silent label g may hold at once, without f and without a move.
        return label == SILENT ? found | g : found;
    }

    private int divergentStates(int f) {
        int staying = f;
        // A state that can't go on inside the set has to leave it, which may
        // strand others in turn. After a step that drops none, none ever will
        // be, and there are as many steps as states to drop.
        for (int step = 0; step < stateLimit; step++) {
            staying &= statesMovingInto(SILENT, staying);
        }
        return staying;
    }

    private int statesOfForm(int kind, int left, int label, int right) {
        switch (kind) {
            case KIND_NOT:
                return allStates() & ~formulaStates[left];
            case KIND_AND:
                return formulaStates[left] & formulaStates[right];
            case KIND_UNTIL:
                return untilStates(formulaStates[left], label, formulaStates[right]);
            case KIND_DIV:
                return divergentStates(formulaStates[left]);
            default:
                return allStates();
        }
    }

    private int keepFormula(int states) {
        int number = formulaTotal;
        formulaStates[number] = states;
        formulaTotal++;
        return number;
    }

    // No cut ever parts two states that share a class in some stable partition,
    // and a partition with no cut left is stable: so it is the coarsest one.
    private void findBlocks() {
        blockStates[0] = allStates();
        blockTotal = 1;
        boolean cut = true;
        // Each cut adds a block, so there are fewer cuts than states, and the
        // rounds suffice for the last one to find no cut.
        for (int round = 0; round < stateLimit && cut; round++) {
            cut = false;
            int blocks = blockTotal;
            for (int block = 0; block < blocks; block++) {
                if (cutByDivergence(block) || cutByMoves(block)) {
                    cut = true;
                }
            }
        }
    }

    private boolean cutByDivergence(int block) {
        int states = divergentStates(blockStates[block]);
        return cutBlock(block, states);
    }

    private boolean cutByMoves(int block) {
        int blocks = blockTotal;
        for (int label = 0; label <= labelLimit; label++) {
            for (int to = 0; to < blocks; to++) {
                if (label == SILENT && to == block) {
                    continue;
                }
                int states = untilStates(blockStates[block], label, blockStates[to]);
                if (cutBlock(block, states)) {
                    return true;
                }
            }
        }
        return false;
    }

    // The first block is TRUE, and a block K is only ever cut by an UNTIL or a
    // DIV of blocks, F, into AND K F and AND K (NOT F). So every block is the
    // set of states of a formula in the five forms, which "tell" relies on.
    private boolean cutBlock(int block, int states) {
        int inside = blockStates[block] & states;
        int outside = blockStates[block] & ~states;
        if (inside == 0 || outside == 0) {
            return false;
        }
        // There is room: the blocks share no state and this one has two or
        // more, so there are fewer blocks than states.
        blockStates[block] = inside;
        blockStates[blockTotal] = outside;
        blockTotal++;
        return true;
    }

    private void orderBlocksByLeastState() {
        int ordered = 0;
        for (int state = 0; state < stateLimit; state++) {
            int block = blockWith(state);
            if (block >= ordered) {
                int states = blockStates[block];
                blockStates[block] = blockStates[ordered];
                blockStates[ordered] = states;
                ordered++;
            }
        }
    }

    private int blockWith(int state) {
        int found = 0;
        for (int block = 0; block < blockTotal; block++) {
            if (contains(blockStates[block], state)) {
                found = block;
            }
        }
        return found;
    }

    private boolean blockMoves(int from, int label, int to) {
        // Silent moves inside a block show in the quotient only as divergence.
        if (label == SILENT && from == to) {
            return divergentStates(blockStates[from]) != 0;
        }
        return (statesMovingInto(label, blockStates[to]) & blockStates[from]) != 0;
    }
}
