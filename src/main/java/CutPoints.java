import java.util.Arrays;

/**
 * How a graph holds together. NODES and ARCS are told by their numbers; sets of NODES are the bits of an int,
 * sets of ARCS the bits of a long.
 */
public final class CutPoints {
    public static final int NONE = -1;

    private static final int FINE = 0;
    private static final int UNKNOWN = -1;
    private static final int OUTSIDE = -2;
    private static final int NOT_SO = -3;
    private static final int NO_ROOM = -4;

    private static final int MOST_NODES = 14;
    private static final int MOST_ARCS = 40;
    private static final int MOST_SPLIT_ARCS = 14;
    /** The place behind all ARCS, where mends lays the ARC that only might come. */
    private static final int TRIAL = MOST_ARCS;

    private final Graph graph;
    /** What is THERE, drawn anew with each change, so that what only asks needs not draw. */
    private final Sketch now;
    /** What would be THERE with one ARC more. */
    private final Sketch tried;
    private final Flow flow;
    private final Compass compass;
    private final Splitter splitter;

    public CutPoints() {
        graph = new Graph();
        now = new Sketch();
        tried = new Sketch();
        flow = new Flow();
        compass = new Compass();
        splitter = new Splitter();
    }

    public void clear() {
        graph.nodeCount = 0;
        graph.arcCount = 0;
        graph.present = 0L;
        redraw();
    }

    public int node() {
        if (graph.nodeCount >= MOST_NODES) {
            return NO_ROOM;
        }
        int made = graph.nodeCount;
        graph.nodeCount = made + 1;
        redraw();
        return made;
    }

    public int arc(int a, int b) {
        int code = pairCode(a, b);
        if (code != FINE) {
            return code;
        }
        if (graph.arcCount >= MOST_ARCS) {
            return NO_ROOM;
        }
        int made = graph.arcCount;
        graph.arcCount = made + 1;
        graph.lay(made, a, b);
        graph.present |= 1L << made;
        redraw();
        return made;
    }

    public int turn(int arc) {
        if (!graph.hasArc(arc)) {
            return UNKNOWN;
        }
        graph.present ^= 1L << arc;
        redraw();
        return graph.isThere(arc) ? 1 : 0;
    }

    public int count(int what) {
        switch (what) {
            case 0:
                return graph.nodeCount;
            case 1:
                return Long.bitCount(graph.present);
            case 2:
                return now.countParts();
            case 3:
                return Long.bitCount(now.bridges);
            case 4:
                return now.countCutNodes();
            case 5:
                return now.blocks.size;
            case 6:
                return now.countTwins();
            case 7:
                return now.countNeeded();
            case 8:
                return Integer.bitCount(now.wear());
            default:
                return OUTSIDE;
        }
    }

    public int part(int node) {
        if (!graph.hasNode(node)) {
            return UNKNOWN;
        }
        return Integer.numberOfTrailingZeros(now.partOf(node));
    }

    public int bridge(int arc) {
        if (!graph.isThere(arc)) {
            return UNKNOWN;
        }
        return hasBit(now.bridges, arc) ? 1 : 0;
    }

    public int falls(int node) {
        if (!graph.hasNode(node)) {
            return UNKNOWN;
        }
        return now.countFalls(node);
    }

    public int block(int arc) {
        if (!graph.isThere(arc)) {
            return UNKNOWN;
        }
        return Long.numberOfTrailingZeros(now.blocks.holding(arc));
    }

    public int twin(int node) {
        if (!graph.hasNode(node)) {
            return UNKNOWN;
        }
        return Integer.numberOfTrailingZeros(now.twinsOf(node));
    }

    public int arcs(int a, int b) {
        int code = pairCode(a, b);
        if (code != FINE) {
            return code;
        }
        flow.layArcs(graph);
        return flow.fill(a, b);
    }

    public int side(int a, int b) {
        int code = pairCode(a, b);
        if (code != FINE) {
            return code;
        }
        flow.layArcs(graph);
        flow.fill(a, b);
        return flow.seen;
    }

    public int nodes(int a, int b) {
        int code = pairCode(a, b);
        if (code != FINE) {
            return code;
        }
        if (hasBit(now.near[a], b)) {
            return NOT_SO;
        }
        flow.layNodes(now);
        return flow.fill(Flow.outOf(a), b);
    }

    public int between(int a, int b) {
        int code = pairCode(a, b);
        if (code != FINE) {
            return code;
        }
        if (!hasBit(now.partOf(a), b)) {
            return NOT_SO;
        }
        return now.countBetween(a, b);
    }

    public int mends(int a, int b) {
        int code = pairCode(a, b);
        if (code != FINE) {
            return code;
        }
        graph.lay(TRIAL, a, b);
        tried.draw(graph, graph.present | 1L << TRIAL);
        return tried.countNeeded() < now.countNeeded() ? 1 : 0;
    }

    public int way(int arc) {
        if (!graph.isThere(arc)) {
            return UNKNOWN;
        }
        long ofPart = now.arcsAt(now.partOf(graph.first[arc]));
        if ((ofPart & now.bridges) != 0L) {
            return NOT_SO;
        }
        return compass.goesForth(graph, ofPart, arc) ? 1 : 0;
    }

    public int together(int e, int f) {
        if (!graph.isThere(e) || !graph.isThere(f)) {
            return UNKNOWN;
        }
        long ofBlock = now.blocks.holding(e);
        if (!hasBit(ofBlock, f)) {
            return NOT_SO;
        }
        if (Long.bitCount(ofBlock) > MOST_SPLIT_ARCS) {
            return NO_ROOM;
        }
        splitter.findGood(now, ofBlock);
        return hasBit(splitter.joinedWith(e), f) ? 1 : 0;
    }

    public int splits(int arc, int what) {
        if (!graph.isThere(arc)) {
            return UNKNOWN;
        }
        if (what < 0 || what > 3) {
            return OUTSIDE;
        }
        long ofBlock = now.blocks.holding(arc);
        if (what == 0) {
            return Long.bitCount(ofBlock);
        }
        if (Long.bitCount(ofBlock) > MOST_SPLIT_ARCS) {
            return NO_ROOM;
        }
        splitter.findGood(now, ofBlock);
        if (what == 1) {
            return splitter.goodCount;
        }
        long joined = splitter.joinedWith(arc);
        return what == 2 ? Long.bitCount(joined) : Long.numberOfTrailingZeros(joined);
    }

    public int worn() {
        return now.wear();
    }

    private void redraw() {
        now.draw(graph, graph.present);
    }

    private int pairCode(int a, int b) {
        if (!graph.hasNode(a) || !graph.hasNode(b)) {
            return UNKNOWN;
        }
        return a == b ? NOT_SO : FINE;
    }

    private static boolean hasBit(long set, int number) {
        return (set >>> number & 1L) != 0L;
    }

    /** The NODES to which one comes from a NODE of the set within, by rows that say where each one leads. */
    private static int spread(int[] rows, int from, int within) {
        int seen = 1 << from;
        int before = 0;
        for (int round = 0; round < rows.length && seen != before; round++) {
            before = seen;
            for (int node = 0; node < rows.length; node++) {
                if (hasBit(seen, node)) {
                    seen |= rows[node] & within;
                }
            }
        }
        return seen;
    }

    private static int countPieces(int[] rows, int within) {
        int left = within;
        int pieces = 0;
        for (int node = 0; node < rows.length; node++) {
            if (hasBit(left, node)) {
                left &= ~spread(rows, node, within);
                pieces++;
            }
        }
        return pieces;
    }

    /** The NODES and ARCS that were made, and which ARCS are THERE. */
    private static final class Graph {
        final int[] first = new int[MOST_ARCS + 1];
        final int[] second = new int[MOST_ARCS + 1];
        int nodeCount;
        int arcCount;
        long present;

        boolean hasNode(int node) {
            return node >= 0 && node < nodeCount;
        }

        boolean hasArc(int arc) {
            return arc >= 0 && arc < arcCount;
        }

        boolean isThere(int arc) {
            return hasArc(arc) && hasBit(present, arc);
        }

        void lay(int arc, int a, int b) {
            first[arc] = a;
            second[arc] = b;
        }
    }

    /** Sets of ARCS of which no two have an ARC in common. */
    private static final class Groups {
        final long[] sets = new long[MOST_ARCS + 1];
        int size;

        void forget() {
            size = 0;
        }

        /** Makes one set of these ARCS and of all sets that have one of them. */
        void join(long some) {
            long joined = some;
            int kept = 0;
            for (int i = 0; i < size; i++) {
                if ((sets[i] & some) != 0L) {
                    joined |= sets[i];
                } else {
                    sets[kept] = sets[i];
                    kept++;
                }
            }
            if (joined != 0L && kept < sets.length) {
                sets[kept] = joined;
                kept++;
            }
            size = kept;
        }

        long holding(int arc) {
            for (int i = 0; i < size; i++) {
                if (hasBit(sets[i], arc)) {
                    return sets[i];
                }
            }
            return 0L;
        }
    }

    /** What some ARCS make of all NODES: who is near whom, BLOCKS and BRIDGES. */
    private static final class Sketch {
        final int[] near = new int[MOST_NODES];
        /** As near, but by ARCS alone that are no BRIDGES: its pieces are the TWO-ARC PARTS. */
        final int[] firm = new int[MOST_NODES];
        final int[] rest = new int[MOST_NODES];
        final long[] at = new long[MOST_NODES];
        final Groups blocks = new Groups();
        int all;
        long bridges;

        void draw(Graph graph, long drawn) {
            all = (1 << graph.nodeCount) - 1;
            fillRows(graph, drawn, near);
            fillArcs(graph, drawn);
            findBlocks();
            bridges = loneArcs();
            fillRows(graph, drawn & ~bridges, firm);
        }

        private static void fillRows(Graph graph, long drawn, int[] rows) {
            Arrays.fill(rows, 0);
            for (int arc = 0; arc <= MOST_ARCS; arc++) {
                if (hasBit(drawn, arc)) {
                    rows[graph.first[arc]] |= 1 << graph.second[arc];
                    rows[graph.second[arc]] |= 1 << graph.first[arc];
                }
            }
        }

        private void fillArcs(Graph graph, long drawn) {
            Arrays.fill(at, 0L);
            for (int arc = 0; arc <= MOST_ARCS; arc++) {
                if (hasBit(drawn, arc)) {
                    at[graph.first[arc]] |= 1L << arc;
                    at[graph.second[arc]] |= 1L << arc;
                }
            }
        }

        /** Two ARCS of one NODE are on one RING just if their other ends are in one PART by its LOSS. */
        private void findBlocks() {
            blocks.forget();
            for (int node = 0; node < MOST_NODES; node++) {
                int left = near[node];
                for (int other = 0; other < MOST_NODES; other++) {
                    if (hasBit(left, other)) {
                        int piece = spread(near, other, all & ~(1 << node));
                        blocks.join(at[node] & arcsAt(piece));
                        left &= ~piece;
                    }
                }
            }
        }

        /** An ARC is on no RING, and so alone in its BLOCK, just if it is a BRIDGE. */
        private long loneArcs() {
            long lone = 0L;
            for (int i = 0; i < blocks.size; i++) {
                if (Long.bitCount(blocks.sets[i]) == 1) {
                    lone |= blocks.sets[i];
                }
            }
            return lone;
        }

        long arcsAt(int some) {
            long found = 0L;
            for (int node = 0; node < MOST_NODES; node++) {
                if (hasBit(some, node)) {
                    found |= at[node];
                }
            }
            return found;
        }

        int partOf(int node) {
            return spread(near, node, all);
        }

        int twinsOf(int node) {
            return spread(firm, node, all);
        }

        int countParts() {
            return countPieces(near, all);
        }

        int countTwins() {
            return countPieces(firm, all);
        }

        int countFalls(int node) {
            return countPieces(near, partOf(node) & ~(1 << node));
        }

        int countCutNodes() {
            int found = 0;
            for (int node = 0; node < MOST_NODES; node++) {
                if (hasBit(all, node) && countFalls(node) > 1) {
                    found++;
                }
            }
            return found;
        }

        /** The caller has seen that a and b are in one PART. */
        int countBetween(int a, int b) {
            int found = 0;
            for (int node = 0; node < MOST_NODES; node++) {
                boolean other = hasBit(all, node) && node != a && node != b;
                if (other && !hasBit(spread(near, a, all & ~(1 << node)), b)) {
                    found++;
                }
            }
            return found;
        }

        /**
         * In the forest that BRIDGES make of the TWO-ARC PARTS each leaf wants one end of a new ARC, and each that
         * stands alone wants two; as few ends are always enough.
         */
        int countNeeded() {
            int left = all;
            int pieces = 0;
            int ends = 0;
            for (int node = 0; node < MOST_NODES; node++) {
                if (hasBit(left, node)) {
                    int twins = twinsOf(node);
                    left &= ~twins;
                    pieces++;
                    ends += Math.max(0, 2 - Long.bitCount(arcsAt(twins) & bridges));
                }
            }
            return pieces > 1 ? (ends + 1) / 2 : 0;
        }

        int wear() {
            System.arraycopy(near, 0, rest, 0, MOST_NODES);
            int left = all;
            for (int round = 0; round < MOST_NODES; round++) {
                int thin = thinNode(left);
                if (thin == NONE) {
                    return left;
                }
                left &= ~(1 << thin);
                linkAll(rest[thin] & left);
            }
            return left;
        }

        private int thinNode(int left) {
            for (int node = 0; node < MOST_NODES; node++) {
                if (hasBit(left, node) && Integer.bitCount(rest[node] & left) <= 2) {
                    return node;
                }
            }
            return NONE;
        }

        private void linkAll(int some) {
            for (int node = 0; node < MOST_NODES; node++) {
                if (hasBit(some, node)) {
                    rest[node] |= some & ~(1 << node);
                }
            }
        }
    }

    /** The most that flows from one point to another is the least that cuts them. */
    private static final class Flow {
        private static final int POINTS = 2 * MOST_NODES;

        /** How much may still flow from point i to point j, at i * POINTS + j. */
        final int[] room = new int[POINTS * POINTS];
        /** The points to which some may still flow from each one. */
        final int[] open = new int[POINTS];
        final int[] before = new int[POINTS];
        /** The points to which the last search came: when nothing more flows, the least side of a least cut. */
        int seen;

        /** For cuts of NODES a NODE is two points, and but one may flow from the one to the other. */
        static int outOf(int node) {
            return node + MOST_NODES;
        }

        void layArcs(Graph graph) {
            forget();
            for (int arc = 0; arc < MOST_ARCS; arc++) {
                if (hasBit(graph.present, arc)) {
                    change(graph.first[arc], graph.second[arc], 1);
                    change(graph.second[arc], graph.first[arc], 1);
                }
            }
        }

        void layNodes(Sketch sketch) {
            forget();
            for (int node = 0; node < MOST_NODES; node++) {
                change(node, outOf(node), 1);
                for (int other = 0; other < MOST_NODES; other++) {
                    if (hasBit(sketch.near[node], other)) {
                        change(outOf(node), other, 1);
                    }
                }
            }
        }

        /** No more than all ARCS can flow, so the last search always fails and leaves its side in seen. */
        int fill(int from, int to) {
            int filled = 0;
            while (filled <= MOST_ARCS && search(from, to)) {
                push(from, to);
                filled++;
            }
            return filled;
        }

        private void forget() {
            Arrays.fill(room, 0);
            Arrays.fill(open, 0);
        }

        private void change(int from, int to, int by) {
            int place = from * POINTS + to;
            room[place] += by;
            if (room[place] > 0) {
                open[from] |= 1 << to;
            } else {
                open[from] &= ~(1 << to);
            }
        }

        private boolean search(int from, int to) {
            seen = 1 << from;
            int known = 0;
            for (int round = 0; round < POINTS && seen != known; round++) {
                known = seen;
                for (int point = 0; point < POINTS; point++) {
                    if (hasBit(seen, point)) {
                        comeFrom(point, open[point] & ~seen);
                    }
                }
            }
            return hasBit(seen, to);
        }

        private void comeFrom(int point, int fresh) {
            if (fresh == 0) {
                return;
            }
            seen |= fresh;
            for (int next = 0; next < POINTS; next++) {
                if (hasBit(fresh, next)) {
                    before[next] = point;
                }
            }
        }

        private void push(int from, int to) {
            int point = to;
            for (int step = 0; step < POINTS && point != from; step++) {
                int last = before[point];
                change(last, point, -1);
                change(point, last, 1);
                point = last;
            }
        }
    }

    /** The first STRONG ORIENTATION. */
    private static final class Compass {
        final int[] leads = new int[MOST_NODES];

        /**
         * One ARC after the other goes FORTH if one still comes back from its second NODE to its first, where the
         * ARCS without a direction lead both ways. As long as one comes from each NODE to each so, and there is no
         * BRIDGE, the other ARCS always can be given directions.
         */
        boolean goesForth(Graph graph, long ofPart, int asked) {
            long forth = 0L;
            long back = 0L;
            for (int arc = 0; arc <= asked && arc < MOST_ARCS; arc++) {
                if (hasBit(ofPart, arc)) {
                    long bit = 1L << arc;
                    fillLeads(graph, ofPart & ~back & ~bit, ofPart & ~forth & ~bit);
                    if (hasBit(spread(leads, graph.second[arc], ~0), graph.first[arc])) {
                        forth |= bit;
                    } else {
                        back |= bit;
                    }
                }
            }
            return hasBit(forth, asked);
        }

        private void fillLeads(Graph graph, long mayForth, long mayBack) {
            Arrays.fill(leads, 0);
            for (int arc = 0; arc < MOST_ARCS; arc++) {
                if (hasBit(mayForth, arc)) {
                    leads[graph.first[arc]] |= 1 << graph.second[arc];
                }
                if (hasBit(mayBack, arc)) {
                    leads[graph.second[arc]] |= 1 << graph.first[arc];
                }
            }
        }
    }

    /**
     * The GOOD SPLITS of a BLOCK. Two NODES cut it into pieces: sets of ARCS that hold together by other NODES.
     * The SPLITS at these NODES are just the ways to make two sets, of two ARCS or more, of whole pieces.
     */
    private static final class Splitter {
        private static final int MOST_PAIRS = MOST_NODES * (MOST_NODES - 1) / 2;
        private static final int MOST_PIECES = MOST_PAIRS * MOST_SPLIT_ARCS;

        final Groups groups = new Groups();
        final long[] pieces = new long[MOST_PIECES];
        /** The pieces of pair i stand from bounds[i] on and before bounds[i + 1]. */
        final int[] bounds = new int[MOST_PAIRS + 1];
        int pairCount;
        /** One set of each GOOD SPLIT: as none CROSS, there are less of them than ARCS. */
        final long[] good = new long[MOST_SPLIT_ARCS];
        int goodCount;
        long block;

        /** The caller has seen that the BLOCK has MOST_SPLIT_ARCS at most. */
        void findGood(Sketch sketch, long ofBlock) {
            block = ofBlock;
            findPieces(sketch);
            goodCount = 0;
            for (int pair = 0; pair < pairCount; pair++) {
                keepGood(bounds[pair], bounds[pair + 1]);
            }
        }

        long joinedWith(int arc) {
            long joined = block;
            for (int i = 0; i < goodCount; i++) {
                joined &= hasBit(good[i], arc) ? good[i] : ~good[i];
            }
            return joined;
        }

        private void findPieces(Sketch sketch) {
            pairCount = 0;
            for (int a = 0; a < MOST_NODES; a++) {
                for (int b = a + 1; b < MOST_NODES; b++) {
                    if ((sketch.at[a] & block) != 0L && (sketch.at[b] & block) != 0L) {
                        cutAt(sketch, a, b);
                        keepPieces();
                    }
                }
            }
        }

        private void cutAt(Sketch sketch, int a, int b) {
            groups.forget();
            for (int node = 0; node < MOST_NODES; node++) {
                if (node != a && node != b) {
                    groups.join(sketch.at[node] & block);
                }
            }
            long direct = sketch.at[a] & sketch.at[b] & block;
            for (int arc = 0; arc < MOST_ARCS; arc++) {
                if (hasBit(direct, arc)) {
                    groups.join(1L << arc);
                }
            }
        }

        private void keepPieces() {
            int from = bounds[pairCount];
            if (groups.size < 2 || from + groups.size > MOST_PIECES || pairCount >= MOST_PAIRS) {
                return;
            }
            for (int i = 0; i < groups.size; i++) {
                pieces[from + i] = groups.sets[i];
            }
            pairCount++;
            bounds[pairCount] = from + groups.size;
        }

        /**
         * A SPLIT with two pieces or more in each set is CROSSED by one at the same NODES: so a GOOD one has a set
         * of one piece. Where there are but two pieces, both make the same SPLIT.
         */
        private void keepGood(int from, int behind) {
            int last = behind - from == 2 ? from + 1 : behind;
            for (int i = from; i < last; i++) {
                boolean split = Long.bitCount(pieces[i]) > 1 && Long.bitCount(block & ~pieces[i]) > 1;
                if (split && goodCount < good.length && !isCrossed(pieces[i])) {
                    good[goodCount] = pieces[i];
                    goodCount++;
                }
            }
        }

        private boolean isCrossed(long set) {
            for (int pair = 0; pair < pairCount; pair++) {
                if (isCrossedAt(set, bounds[pair], bounds[pair + 1])) {
                    return true;
                }
            }
            return false;
        }

        /**
         * Pieces can be made two sets that both have ARCS within and without, if there are two that have both, or
         * two pairs of one within and one without, or one and one pair. Such sets have two ARCS each.
         */
        private boolean isCrossedAt(long set, int from, int behind) {
            int within = 0;
            int without = 0;
            int both = 0;
            for (int i = from; i < behind; i++) {
                if ((pieces[i] & ~set) == 0L) {
                    within++;
                } else if ((pieces[i] & set) == 0L) {
                    without++;
                } else {
                    both++;
                }
            }
            return both + Math.min(within, without) >= 2;
        }
    }
}
