import java.util.Arrays;
import java.util.TreeSet;

/** Ints of all sizes, for the sentences that speak of every int. */
final class Ints {
    private static final int NEAR = 40;
    private static final int AT_THE_ENDS = 12;
    private static final int[] ALL = collect();
    private static final int[] FEW = {
        Integer.MIN_VALUE, Integer.MIN_VALUE + 1, -65536, -32, -1, 0, 1, 2, 3, 4, 5, 12, 32,
        65536, Integer.MAX_VALUE - 1, Integer.MAX_VALUE
    };

    private Ints() {}

    static int[] all() {
        return ALL.clone();
    }

    /** So few that each can be tried with each, up to four arguments. */
    static int[] few() {
        return FEW.clone();
    }

    static int[] below(int end) {
        return Arrays.stream(ALL).filter(value -> value < end).toArray();
    }

    static int[] above(int end) {
        return Arrays.stream(ALL).filter(value -> value > end).toArray();
    }

    // Values just off a power of two look like small ones to a program that
    // shifts by them, or keeps them in too few bits.
    private static int[] collect() {
        TreeSet<Integer> found = new TreeSet<>();
        for (int value = -NEAR; value <= NEAR; value++) {
            found.add(value);
        }
        for (int power = 6; power <= 30; power++) {
            for (int off : new int[] {-1, 0, 1, 5}) {
                found.add((1 << power) + off);
                found.add(-(1 << power) + off);
            }
        }
        for (int off = 0; off <= AT_THE_ENDS; off++) {
            found.add(Integer.MIN_VALUE + off);
            found.add(Integer.MAX_VALUE - off);
        }
        return found.stream().mapToInt(Integer::intValue).toArray();
    }
}
