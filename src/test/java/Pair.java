import java.util.ArrayDeque;
import java.util.Deque;

/** The program and the model side by side: each call goes to both, and they must agree. */
final class Pair {
    private static final int SHOWN = 60;

    private final Check check;
    private final BranchingBisim program;
    private final Model model;
    private final Deque<String> latest = new ArrayDeque<>();

    Pair(Check check, int... sizes) {
        this.check = check;
        program = new BranchingBisim(sizes[0], sizes[1], sizes[2], sizes[3]);
        model = new Model(sizes[0], sizes[1], sizes[2], sizes[3]);
        latest.add(Calls.text("new", sizes));
    }

    Model model() {
        return model;
    }

    BranchingBisim program() {
        return program;
    }

    int call(String name, int... args) {
        int got = ask(name, args);
        latest.add(Calls.text(name, args));
        if (latest.size() > SHOWN) latest.remove();
        return got;
    }

    /** Asks all there is to see, so that a call that changed too much shows at once. */
    void askEverything() {
        int states = model.states();
        int labels = model.labels();
        ask("moveCount");
        ask("formulaCount");
        ask("blockCount");
        ask("quotientMoveCount");
        for (int s = 0; s < states; s++) {
            ask("blockOf", s);
            ask("leader", s);
            for (int label = 0; label <= labels; label++) {
                for (int t = 0; t < states; t++) {
                    ask("hasMove", s, label, t);
                    ask("quotientMove", s, label, t);
                }
            }
            for (int formula = 0; formula < model.formulaCount(); formula++) {
                ask("holds", formula, s);
            }
        }
    }

    private int ask(String name, int... args) {
        int got = Calls.call(program, name, args);
        int want = Calls.call(model, name, args);
        if (got != want) {
            check.due(String.join(" ", latest), Calls.text(name, args), got, want);
        } else {
            check.due("", name, got, want);
        }
        return got;
    }
}
