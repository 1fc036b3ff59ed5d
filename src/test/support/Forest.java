import java.util.ArrayList;
import java.util.Collection;
import java.util.HashMap;
import java.util.List;
import java.util.Map;
import java.util.TreeMap;

/** The fewest new ARCS that make a forest of up to 14 NODES whole, by trying all of them one after the other. */
final class Forest {
    private static final Map<Integer, Integer> KNOWN = new HashMap<>();
    private static final Map<Integer, int[]> SHAPES = new TreeMap<>();

    private Forest() {
    }

    /** One forest of each shape with 1 NODE up to 14: all come from 14 NODES without ARCS by one ARC after the other. */
    static Collection<int[]> all() {
        needed(new int[14]);
        return SHAPES.values();
    }

    static int needed(int[] near) {
        int shape = shape(near);
        Integer known = KNOWN.get(shape);
        if (known != null) {
            return known;
        }
        int best = near.length <= 1 ? 0 : Integer.MAX_VALUE;
        for (int a = 0; a < near.length; a++) {
            for (int b = a + 1; b < near.length; b++) {
                best = Math.min(best, 1 + needed(withOneMore(near, a, b)));
            }
        }
        KNOWN.put(shape, best);
        SHAPES.put(shape, near);
        return best;
    }

    /** With the new ARC all NODES on the way from a to b, if there is one, become one. */
    static int[] withOneMore(int[] near, int a, int b) {
        int way = wayBetween(near, a, b, 0);
        if (way == 0) {
            int[] more = near.clone();
            more[a] |= 1 << b;
            more[b] |= 1 << a;
            return more;
        }
        int count = 0;
        int[] place = new int[near.length];
        for (int node = 0; node < near.length; node++) {
            place[node] = (way >> node & 1) == 0 || node == a ? count++ : 0;
        }
        int[] less = new int[count];
        for (int node = 0; node < near.length; node++) {
            int from = (way >> node & 1) != 0 ? place[a] : place[node];
            for (int other = 0; other < near.length; other++) {
                int to = (way >> other & 1) != 0 ? place[a] : place[other];
                less[from] |= (near[node] >> other & 1) != 0 && from != to ? 1 << to : 0;
            }
        }
        return less;
    }

    /** The NODES on the way from one to another, or 0 if there is none; never back to the one before. */
    private static int wayBetween(int[] near, int from, int to, int before) {
        if (from == to) {
            return 1 << to;
        }
        for (int next = 0; next < near.length; next++) {
            int way = (near[from] & ~before & 1 << next) != 0 ? wayBetween(near, next, to, 1 << from) : 0;
            if (way != 0) {
                return way | 1 << from;
            }
        }
        return 0;
    }

    /** Forests that differ but in the names of their NODES have one shape: brackets, two bits for each NODE. */
    private static int shape(int[] near) {
        List<Integer> trees = new ArrayList<>();
        int left = (1 << near.length) - 1;
        while (left != 0) {
            int tree = treeOf(near, Integer.numberOfTrailingZeros(left), 0);
            left &= ~tree;
            int most = 0;
            for (int root = 0; root < near.length; root++) {
                most = (tree >> root & 1) != 0 ? Math.max(most, rooted(near, root, 0)) : most;
            }
            trees.add(most);
        }
        return sorted(0, trees);
    }

    private static int treeOf(int[] near, int node, int before) {
        int tree = 1 << node;
        for (int next = 0; next < near.length; next++) {
            tree |= (near[node] & ~before & 1 << next) != 0 ? treeOf(near, next, 1 << node) : 0;
        }
        return tree;
    }

    private static int rooted(int[] near, int node, int before) {
        List<Integer> parts = new ArrayList<>();
        for (int next = 0; next < near.length; next++) {
            if ((near[node] & ~before & 1 << next) != 0) {
                parts.add(rooted(near, next, 1 << node));
            }
        }
        return sorted(1, parts) << 1;
    }

    private static int sorted(int start, List<Integer> parts) {
        parts.sort(null);
        int all = start;
        for (int part : parts) {
            all = all << 32 - Integer.numberOfLeadingZeros(part) | part;
        }
        return all;
    }
}
