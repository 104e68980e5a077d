import java.util.Arrays;
import java.util.Set;
import java.util.TreeSet;
import java.util.regex.Matcher;
import java.util.regex.Pattern;

/**
 * Plays runs that are written down as text, one call a line:
 *
 *   new(6, 2, 16, 8)             a fresh object
 *   addMove(0, 0, 1) = OK        a call and the answer that is due
 *   addMove(<0, 1..2, >5) = BAD  such a call for ints of all sizes below 0 and above 5, each with each
 *   addMove(ANY, 0, 0) = CLOSED  the same for ints of all sizes
 *   blocks() = 0 0 1             blockOf for every state
 *   states(2) = 1 0 1            holds of formula 2 for every state
 *   moves() = 0.1.2 0.0.0        these moves and no others, by hasMove and moveCount; or none
 *   quotient() = 0.1.1           these moves of the quotient and no others; or none
 *
 * A number may be a constant's name, MIN or MAX (the least and the greatest int).
 * After a line that must not change anything, all that can be seen must be as before.
 * The model is played along, so that it too is held to the written answers.
 */
final class Runs {
    private static final Pattern LINE = Pattern.compile("(\\w+)\\(([^)]*)\\)(?:\\s*=\\s*(.+))?");
    private static final Pattern RANGE = Pattern.compile("(\\d+)\\.\\.(\\d+)");
    private static final Set<String> CHANGING =
        Set.of("addMove", "removeMove", "minimise", "reopen", "make", "tell");
    private static final int LEAST_REFUSAL = 101;

    private final Check check = new Check();
    private BranchingBisim object;
    private Model model;
    private int states;
    private int labels;

    /** A run that shows one sentence of the document. */
    void play(String sentence, String script) {
        check.begin();
        int number = 0;
        for (String line : script.split("\n")) {
            number++;
            if (!line.isBlank() && !endsWell(sentence + ", line " + number, line.strip())) {
                return;
            }
        }
    }

    void end() {
        check.end();
    }

    // No call may ever throw, so one that does is a wrong answer like others.
    private boolean endsWell(String where, String line) {
        try {
            playLine(where, line);
            return true;
        } catch (RuntimeException e) {
            check.due(where, line, e, "an answer");
            return false;
        }
    }

    private void playLine(String where, String line) {
        Matcher matcher = LINE.matcher(line);
        if (!matcher.matches()) {
            throw new IllegalArgumentException(where + ": " + line);
        }
        String call = matcher.group(1);
        int[][] choices = choices(matcher.group(2));
        if (call.equals("new")) {
            begin(Arrays.stream(choices).mapToInt(choice -> choice[0]).toArray());
            return;
        }
        Picture before = Picture.of(object);
        boolean changed = playCall(where, call, choices, matcher.group(3));
        if (!changed) {
            check.isTrue(where, line + " changed nothing", Picture.of(object).isLike(before));
        }
    }

    private void begin(int[] sizes) {
        object = new BranchingBisim(sizes[0], sizes[1], sizes[2], sizes[3]);
        model = new Model(sizes[0], sizes[1], sizes[2], sizes[3]);
        states = model.states();
        labels = model.labels();
    }

    private boolean playCall(String where, String call, int[][] choices, String due) {
        switch (call) {
            case "blocks" -> checkBlocks(where, numbers(due));
            case "states" -> checkStates(where, choices[0][0], numbers(due));
            case "moves" -> checkMoves(where, due);
            case "quotient" -> checkQuotient(where, due);
            default -> checkEach(where, call, choices, number(due));
        }
        return CHANGING.contains(call) && number(due) < LEAST_REFUSAL;
    }

    private void checkEach(String where, String call, int[][] choices, int due) {
        int many = 1;
        for (int[] choice : choices) {
            many *= choice.length;
        }
        int[] args = new int[choices.length];
        for (int pick = 0; pick < many; pick++) {
            int rest = pick;
            for (int place = 0; place < args.length; place++) {
                args[place] = choices[place][rest % choices[place].length];
                rest /= choices[place].length;
            }
            checkOne(where, call, due, args);
        }
    }

    private void checkBlocks(String where, int[] due) {
        check.due(where, "states", due.length, states);
        for (int state = 0; state < due.length; state++) {
            checkOne(where, "blockOf", due[state], state);
        }
    }

    private void checkStates(String where, int formula, int[] due) {
        check.due(where, "states", due.length, states);
        for (int state = 0; state < due.length; state++) {
            checkOne(where, "holds", due[state], formula, state);
        }
    }

    private void checkMoves(String where, String due) {
        int found = checkTriples(where, "hasMove", due, states);
        checkOne(where, "moveCount", found);
    }

    private void checkQuotient(String where, String due) {
        int found = checkTriples(where, "quotientMove", due, model.blockCount());
        checkOne(where, "quotientMoveCount", found);
    }

    private int checkTriples(String where, String call, String due, int end) {
        Set<String> left = new TreeSet<>();
        if (!due.equals("none")) {
            left.addAll(Arrays.asList(due.split(" +")));
        }
        int many = left.size();
        for (int from = 0; from < end; from++) {
            for (int label = 0; label <= labels; label++) {
                for (int to = 0; to < end; to++) {
                    boolean there = left.remove(from + "." + label + "." + to);
                    checkOne(where, call, there ? BranchingBisim.YES : BranchingBisim.NO, from, label, to);
                }
            }
        }
        check.due(where, call + " not asked", left, Set.of());
        return many;
    }

    private void checkOne(String where, String call, int due, int... args) {
        String text = Calls.text(call, args);
        check.due(where, text, Calls.call(object, call, args), due);
        check.due(where, "in the model, " + text, Calls.call(model, call, args), due);
    }

    private static int[][] choices(String args) {
        if (args.isBlank()) {
            return new int[0][];
        }
        return Arrays.stream(args.split(",")).map(String::strip).map(Runs::choice).toArray(int[][]::new);
    }

    private static int[] choice(String text) {
        Matcher range = RANGE.matcher(text);
        if (text.equals("ANY")) {
            return Ints.few();
        }
        if (text.startsWith("<")) {
            return Ints.below(number(text.substring(1)));
        }
        if (text.startsWith(">")) {
            return Ints.above(number(text.substring(1)));
        }
        if (range.matches()) {
            int first = number(range.group(1));
            int[] all = new int[number(range.group(2)) - first + 1];
            Arrays.setAll(all, place -> first + place);
            return all;
        }
        return new int[] {number(text)};
    }

    private static int[] numbers(String text) {
        return Arrays.stream(text.split(" +")).mapToInt(Runs::number).toArray();
    }

    private static int number(String text) {
        if (text.equals("MIN")) {
            return Integer.MIN_VALUE;
        }
        if (text.equals("MAX")) {
            return Integer.MAX_VALUE;
        }
        if (text.matches("-?\\d+")) {
            return Integer.parseInt(text);
        }
        try {
            return BranchingBisim.class.getField(text).getInt(null);
        } catch (ReflectiveOperationException e) {
            throw new IllegalArgumentException(text, e);
        }
    }
}
