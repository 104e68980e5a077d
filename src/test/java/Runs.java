import java.util.Arrays;
import java.util.regex.Matcher;
import java.util.regex.Pattern;

/**
 * Plays runs that are written down as text, one call a line:
 *
 *   new(6, 2, 16, 8)        a fresh object
 *   addMove(0, 0, 1) = OK   a call and the answer that is due
 *   blocks() = 0 0 1        blockOf for every state from 0 on, the next one being BAD
 *   states(2) = 1 0 1       holds of formula 2 for every state, the next one being BAD
 *
 * A number may be a constant's name, MIN or MAX (the least and the greatest int).
 */
final class Runs {
    private static final Pattern LINE = Pattern.compile("(\\w+)\\(([^)]*)\\)(?:\\s*=\\s*(.+))?");

    private final Check check = new Check();
    private BranchingBisim object;

    void play(String name, String script) {
        object = null;
        int number = 0;
        for (String line : script.split("\n")) {
            number++;
            if (!line.isBlank()) {
                playLine(name + ", line " + number, line.strip());
            }
        }
    }

    void end() {
        check.end();
    }

    private void playLine(String where, String line) {
        Matcher matcher = LINE.matcher(line);
        if (!matcher.matches()) {
            throw new IllegalArgumentException(where + ": " + line);
        }
        String call = matcher.group(1);
        int[] args = numbers(matcher.group(2), ",");
        if (call.equals("new")) {
            object = new BranchingBisim(args[0], args[1], args[2], args[3]);
            return;
        }
        int[] due = numbers(matcher.group(3), " ");
        switch (call) {
            case "blocks" -> checkAll(where, "blockOf", new int[0], due);
            case "states" -> checkAll(where, "holds", args, due);
            default -> checkOne(where, call, args, due[0]);
        }
    }

    private void checkAll(String where, String call, int[] firstArgs, int[] due) {
        for (int state = 0; state <= due.length; state++) {
            int[] args = Arrays.copyOf(firstArgs, firstArgs.length + 1);
            args[firstArgs.length] = state;
            checkOne(where, call, args, state < due.length ? due[state] : BranchingBisim.BAD);
        }
    }

    private void checkOne(String where, String call, int[] args, int due) {
        check.due(where, Calls.text(call, args), Calls.call(object, call, args), due);
    }

    private static int[] numbers(String text, String separator) {
        if (text.isBlank()) {
            return new int[0];
        }
        return Arrays.stream(text.split(separator))
            .map(String::strip).filter(part -> !part.isEmpty())
            .mapToInt(Runs::number).toArray();
    }

    private static int number(String text) {
        if (text.equals("MIN")) {
            return Integer.MIN_VALUE;
        }
        if (text.equals("MAX")) {
            return Integer.MAX_VALUE;
        }
        if (text.matches("-?\\d+")) {
            return Integer.parseInt(text);
        }
        try {
            return BranchingBisim.class.getField(text).getInt(null);
        } catch (ReflectiveOperationException e) {
            throw new IllegalArgumentException(text, e);
        }
    }
}
