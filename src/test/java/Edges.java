import java.util.Set;
import java.util.TreeSet;

/** Numbers at and beyond the edges of what a call takes. */
final class Edges {
    private Edges() {
    }

    /** The least and the greatest that is taken, and one step this side of each. */
    static Set<Integer> within(int low, int high) {
        Set<Integer> edges = new TreeSet<>();
        for (int edge : new int[] {low, low + 1, high - 1, high}) {
            if (edge >= low && edge <= high) {
                edges.add(edge);
            }
        }
        return edges;
    }

    /** One step beyond, as far as may be beyond, and where a shift or a narrower type would wrap around. */
    static Set<Integer> beyond(int low, int high) {
        Set<Integer> edges = new TreeSet<>();
        for (long edge : new long[] {Integer.MIN_VALUE, low - 65536L, low - 256L, low - 32L, low - 2L, low - 1L,
            high + 1L, high + 2L, low + 31L, low + 32L, high + 32L, low + 64L, low + 256L, low + 65536L, Integer.MAX_VALUE}) {
            boolean isInt = edge == (int) edge;
            if (isInt && (edge < low || edge > high)) {
                edges.add((int) edge);
            }
        }
        return edges;
    }
}
