import java.util.Arrays;

/** All that can be seen of an object by the calls that change nothing. */
final class Picture {
    private static final int STATES = BranchingBisim.MAX_STATES;
    private static final int LABELS = BranchingBisim.MAX_LABELS;

    private final int[] answers = new int[2000];
    private int taken;

    private Picture() {}

    static Picture of(BranchingBisim object) {
        Picture picture = new Picture();
        picture.add(object.moveCount());
        picture.add(object.formulaCount());
        picture.add(object.blockCount());
        picture.add(object.quotientMoveCount());
        for (int s = 0; s < STATES; s++) {
            picture.add(object.blockOf(s));
            picture.add(object.leader(s));
            for (int formula = 0; formula < BranchingBisim.MAX_FORMULAS; formula++) {
                picture.add(object.holds(formula, s));
            }
            picture.addMovesFrom(object, s);
        }
        return picture;
    }

    boolean isLike(Picture other) {
        return taken == other.taken && Arrays.equals(answers, other.answers);
    }

    private void addMovesFrom(BranchingBisim object, int s) {
        for (int label = 0; label <= LABELS; label++) {
            for (int t = 0; t < STATES; t++) {
                add(object.hasMove(s, label, t));
                add(object.quotientMove(s, label, t));
            }
        }
    }

    private void add(int answer) {
        answers[taken] = answer;
        taken++;
    }
}
