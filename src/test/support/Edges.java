import java.util.Set;
import java.util.TreeSet;

/** Ints at the edges of a range. */
final class Edges {
    private Edges() {
    }

    /**
     * Ints outside [0, end): those beside its ends, the extremes of int, and those
     * that would pass for one inside if bits were cut off, a sign were dropped or a
     * sum wrapped around.
     */
    static Set<Integer> outside(int end) {
        Set<Integer> found = new TreeSet<>(Set.of(
            Integer.MIN_VALUE, Integer.MIN_VALUE + 1, Integer.MAX_VALUE - 1, Integer.MAX_VALUE));
        for (int step = 0; step < 4; step++) {
            found.add(-step);
            found.add(end + step);
        }
        for (int inside : new int[] {0, 1, 2, end / 2, end - 2, end - 1}) {
            found.add(-inside);
            found.add(~inside);
            for (int bit = 0; bit < 32; bit++) {
                found.add(inside + (1 << bit));
                found.add(inside - (1 << bit));
            }
        }
        found.removeIf(i -> i >= 0 && i < end);
        return found;
    }
}
