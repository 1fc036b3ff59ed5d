import java.util.ArrayList;
import java.util.List;

/** All answers on many small graphs against the document's definitions, which are tried out one by one. */
public final class DefinitionTests {
    private static int wrong = 0;
    private static long seed = 20261115L;

    private final CutPoints x = new CutPoints();
    private final int n;
    private final int made;
    private final int[] first;
    private final int[] second;
    private final boolean[] there;
    private final String name;

    private DefinitionTests(int n, int made, String name) {
        this.n = n;
        this.made = made;
        this.name = name;
        first = new int[made];
        second = new int[made];
        there = new boolean[made];
        for (int i = 0; i < n; i++) {
            x.node();
        }
    }

    private static int dice(int sides) {
        seed = seed * 6364136223846793005L + 1442695040888963407L;
        return (int) ((seed >>> 33) % sides);
    }

    private void due(String call, int got, int want) {
        if (got != want) {
            wrong++;
            if (wrong < 40) {
                System.out.println(name + this + ": " + call + " answered " + got + ", due is " + want);
            }
        }
    }

    @Override
    public String toString() {
        StringBuilder text = new StringBuilder(" ").append(n).append(" nodes");
        for (int i = 0; i < made; i++) {
            text.append(' ').append(first[i]).append('-').append(second[i]).append(there[i] ? "" : "(not)");
        }
        return text.toString();
    }

    private void put(int arc, int a, int b) {
        first[arc] = a;
        second[arc] = b;
        there[arc] = true;
        x.arc(a, b);
    }

    private void turnSome() {
        for (int arc = 0; arc < made; arc++) {
            if (dice(8) == 0) {
                there[arc] = false;
                x.turn(arc);
            }
        }
    }

    // ---- the definitions ----

    /** Which NODES one comes to from one, with the ARCS kept and without the NODES lost. */
    private int reach(int from, boolean[] kept, int lost) {
        int seen = 1 << from;
        for (int round = 0; round < n; round++) {
            for (int i = 0; i < made; i++) {
                boolean on = kept[i] && (lost >> first[i] & 1) == 0 && (lost >> second[i] & 1) == 0;
                if (on && ((seen >> first[i] | seen >> second[i]) & 1) != 0) {
                    seen |= 1 << first[i] | 1 << second[i];
                }
            }
        }
        return seen;
    }

    private boolean one(int a, int b, boolean[] kept, int lost) {
        return (reach(a, kept, lost) >> b & 1) != 0;
    }

    private boolean[] without(int arc) {
        boolean[] kept = there.clone();
        kept[arc] = false;
        return kept;
    }

    private boolean isBridge(int arc) {
        return !one(first[arc], second[arc], without(arc), 0);
    }

    private boolean sameTwin(int a, int b) {
        boolean same = one(a, b, there, 0);
        for (int arc = 0; arc < made && same; arc++) {
            same = !there[arc] || one(a, b, without(arc), 0);
        }
        return same;
    }

    private int fallen(int node) {
        int part = reach(node, there, 0) & ~(1 << node);
        int pieces = 0;
        while (part != 0) {
            part &= ~reach(Integer.numberOfTrailingZeros(part), there, 1 << node);
            pieces++;
        }
        return pieces;
    }

    private int[] thereList() {
        List<Integer> list = new ArrayList<>();
        for (int i = 0; i < made; i++) {
            if (there[i]) {
                list.add(i);
            }
        }
        return list.stream().mapToInt(Integer::intValue).toArray();
    }

    /** A set of ARCS is a RING if it is connected and each of its NODES has two of them. */
    private long ringOf(int[] list, int set) {
        int[] degree = new int[n];
        boolean[] kept = new boolean[made];
        long arcs = 0;
        for (int i = 0; i < list.length; i++) {
            if ((set >> i & 1) != 0) {
                degree[first[list[i]]]++;
                degree[second[list[i]]]++;
                kept[list[i]] = true;
                arcs |= 1L << list[i];
            }
        }
        int on = 0;
        for (int node = 0; node < n; node++) {
            if (degree[node] != 0 && degree[node] != 2) {
                return 0;
            }
            on |= degree[node] == 2 ? 1 << node : 0;
        }
        return on != 0 && reach(Integer.numberOfTrailingZeros(on), kept, 0) == on ? arcs : 0;
    }

    private long[] blockSets() {
        long[] block = new long[made];
        int[] list = thereList();
        for (int arc : list) {
            block[arc] = 1L << arc;
        }
        for (int set = 1; set < 1 << list.length; set++) {
            if (Integer.bitCount(set) > n) {
                continue;
            }
            long ring = ringOf(list, set);
            for (int arc : list) {
                if ((ring >> arc & 1) != 0) {
                    block[arc] |= ring;
                }
            }
        }
        return block;
    }

    private static int neededFor(int n, int[] a, int[] b, int count, int more, int fromPair) {
        DefinitionTests g = new DefinitionTests(n, count, "");
        for (int i = 0; i < count; i++) {
            g.first[i] = a[i];
            g.second[i] = b[i];
            g.there[i] = true;
        }
        if (more == 0) {
            for (int node = 1; node < n; node++) {
                if (!g.sameTwin(0, node)) {
                    return 0;
                }
            }
            return 1;
        }
        for (int pair = fromPair; pair < n * n; pair++) {
            a[count] = pair / n;
            b[count] = pair % n;
            if (a[count] < b[count] && neededFor(n, a, b, count + 1, more - 1, pair) == 1) {
                return 1;
            }
        }
        return 0;
    }

    /** The fewest ARCS that must come, found by trying all ways to lay 0, 1, 2 .. new ones. */
    private int needed(int extraA, int extraB) {
        int[] list = thereList();
        int[] a = new int[made + 30];
        int[] b = new int[made + 30];
        int count = 0;
        for (int arc : list) {
            a[count] = first[arc];
            b[count++] = second[arc];
        }
        if (extraA != extraB) {
            a[count] = extraA;
            b[count++] = extraB;
        }
        int more = 0;
        while (n > 0 && neededFor(n, a, b, count, more, 0) == 0) {
            more++;
        }
        return more;
    }

    /** What is left if the NODE goes, should it have ARCS to two others at most. */
    private int goes(int[] near, int left, int node) {
        int others = near[node] & left;
        if ((left >> node & 1) == 0 || Integer.bitCount(others) > 2) {
            return left;
        }
        for (int v = 0; v < n; v++) {
            near[v] |= (others >> v & 1) != 0 ? others & ~(1 << v) : 0;
        }
        return left & ~(1 << node);
    }

    /** NODES go in an order by chance first, and then until none can. */
    private int wornSet() {
        int[] near = new int[n];
        for (int arc : thereList()) {
            near[first[arc]] |= 1 << second[arc];
            near[second[arc]] |= 1 << first[arc];
        }
        int left = (1 << n) - 1;
        for (int step = 0; step < n; step++) {
            left = goes(near, left, dice(n));
        }
        for (int step = 0; step < n * n; step++) {
            left = goes(near, left, step % n);
        }
        return left;
    }

    private int fewestArcs(int a, int b) {
        int[] list = thereList();
        int best = one(a, b, there, 0) ? list.length : 0;
        for (int set = 0; set < 1 << list.length && best > 0; set++) {
            if (Integer.bitCount(set) < best) {
                boolean[] kept = there.clone();
                for (int i = 0; i < list.length; i++) {
                    kept[list[i]] = (set >> i & 1) == 0;
                }
                best = one(a, b, kept, 0) ? best : Integer.bitCount(set);
            }
        }
        return best;
    }

    private int leading(int set) {
        int lead = 0;
        for (int arc : thereList()) {
            lead += (set >> first[arc] & 1) != (set >> second[arc] & 1) ? 1 : 0;
        }
        return lead;
    }

    /** The set with the fewest ARCS, then with the fewest NODES, and the fewest ARCS above them as bits. */
    private int[] leastSide(int a, int b) {
        int best = -1;
        int bestLead = 0;
        for (int set = 0; set < 1 << n; set++) {
            if ((set >> a & 1) == 0 || (set >> b & 1) != 0) {
                continue;
            }
            int lead = leading(set);
            boolean better = best < 0 || lead < bestLead
                    || lead == bestLead && Integer.bitCount(set) < Integer.bitCount(best);
            if (better) {
                best = set;
                bestLead = lead;
            }
        }
        return new int[] {best, bestLead};
    }

    private int fewestNodes(int a, int b) {
        if (!one(a, b, there, 0)) {
            return 0;
        }
        int best = n;
        for (int set = 0; set < 1 << n; set++) {
            boolean fits = (set >> a & 1) == 0 && (set >> b & 1) == 0 && Integer.bitCount(set) < best;
            if (fits && !one(a, b, there, set)) {
                best = Integer.bitCount(set);
            }
        }
        return best;
    }

    private boolean hasArcBetween(int a, int b) {
        for (int arc : thereList()) {
            if (first[arc] == a && second[arc] == b || first[arc] == b && second[arc] == a) {
                return true;
            }
        }
        return false;
    }

    private boolean isStrong(int part, List<Integer> ofPart, long forth) {
        for (int start = 0; start < n; start++) {
            if ((part >> start & 1) == 0) {
                continue;
            }
            int seen = 1 << start;
            for (int round = 0; round < n; round++) {
                for (int i = 0; i < ofPart.size(); i++) {
                    int arc = ofPart.get(i);
                    boolean on = (forth >> (ofPart.size() - 1 - i) & 1) != 0;
                    int from = on ? first[arc] : second[arc];
                    int to = on ? second[arc] : first[arc];
                    seen |= (seen >> from & 1) << to;
                }
            }
            if (seen != part) {
                return false;
            }
        }
        return true;
    }

    private void checkWays(int node) {
        int part = reach(node, there, 0);
        List<Integer> ofPart = new ArrayList<>();
        boolean bridges = false;
        for (int arc : thereList()) {
            if ((part >> first[arc] & 1) != 0) {
                ofPart.add(arc);
                bridges |= isBridge(arc);
            }
        }
        if (Integer.numberOfTrailingZeros(part) != node || ofPart.isEmpty()) {
            return;
        }
        long forth = (1L << ofPart.size()) - 1;
        while (!bridges && !isStrong(part, ofPart, forth)) {
            forth--;
        }
        for (int i = 0; i < ofPart.size(); i++) {
            int want = bridges ? -3 : (int) (forth >> (ofPart.size() - 1 - i) & 1);
            due("way(" + ofPart.get(i) + ")", x.way(ofPart.get(i)), want);
        }
    }

    /**
     * All ways of a PART are STRONG; and where an ARC goes BACK, with it FORTH and all lesser ones as they are there
     * would be NODES, not with its first one, from which no ARC leads to others, whatever the greater ones do.
     */
    private void checkWaysByWitness(int node) {
        int part = reach(node, there, 0);
        List<Integer> ofPart = new ArrayList<>();
        boolean bridges = false;
        for (int arc : thereList()) {
            if ((part >> first[arc] & 1) != 0) {
                ofPart.add(arc);
                bridges |= isBridge(arc);
            }
        }
        long forth = 0;
        for (int i = 0; i < ofPart.size(); i++) {
            int way = x.way(ofPart.get(i));
            forth |= (long) (way & 1) << (ofPart.size() - 1 - i);
            due("way(" + ofPart.get(i) + ") of a PART with a BRIDGE", bridges == (way == -3) ? 1 : 0, 1);
            if (!bridges && way == 0) {
                due("way(" + ofPart.get(i) + "), witness", mayComeBack(ofPart, i, forth) ? 1 : 0, 0);
            }
        }
        if (!bridges) {
            due("all ways STRONG", isStrong(part, ofPart, forth) ? 1 : 0, 1);
        }
    }

    /** Whether one may come from the second NODE of the ARC to its first, if the lesser ARCS go as told. */
    private boolean mayComeBack(List<Integer> ofPart, int tried, long forth) {
        int seen = 1 << second[ofPart.get(tried)];
        for (int round = 0; round < n; round++) {
            for (int i = 0; i < ofPart.size(); i++) {
                int arc = ofPart.get(i);
                boolean goesForth = (forth >> (ofPart.size() - 1 - i) & 1) != 0;
                if (i >= tried || goesForth) {
                    seen |= (seen >> first[arc] & 1) << second[arc];
                }
                if (i > tried || i < tried && !goesForth) {
                    seen |= (seen >> second[arc] & 1) << first[arc];
                }
            }
        }
        return (seen >> first[ofPart.get(tried)] & 1) != 0;
    }

    private int nodesOf(long arcs) {
        int set = 0;
        for (int arc = 0; arc < made; arc++) {
            set |= (arcs >> arc & 1) != 0 ? 1 << first[arc] | 1 << second[arc] : 0;
        }
        return set;
    }

    private List<Long> goodSplits(long block) {
        List<Long> all = new ArrayList<>();
        long lowest = block & -block;
        for (long set = block; set != 0; set = set - 1 & block) {
            boolean big = Long.bitCount(set) > 1 && Long.bitCount(block & ~set) > 1;
            if ((set & lowest) != 0 && big && Integer.bitCount(nodesOf(set) & nodesOf(block & ~set)) == 2) {
                all.add(set);
            }
        }
        List<Long> good = new ArrayList<>();
        for (long s : all) {
            boolean crossed = false;
            for (int i = 0; i < all.size() && !crossed; i++) {
                long t = all.get(i);
                crossed = (s & t) != 0 && (s & ~t) != 0 && (~s & t) != 0 && (block & ~s & ~t) != 0;
            }
            if (!crossed) {
                good.add(s);
            }
        }
        return good;
    }

    // ---- the checks ----

    private void checkNodes() {
        int parts = 0;
        int twins = 0;
        int cuts = 0;
        for (int node = 0; node < n; node++) {
            int part = Integer.numberOfTrailingZeros(reach(node, there, 0));
            int twin = 0;
            while (!sameTwin(twin, node)) {
                twin++;
            }
            parts += part == node ? 1 : 0;
            twins += twin == node ? 1 : 0;
            cuts += fallen(node) > 1 ? 1 : 0;
            due("part(" + node + ")", x.part(node), part);
            due("twin(" + node + ")", x.twin(node), twin);
            due("falls(" + node + ")", x.falls(node), fallen(node));
        }
        due("count(0)", x.count(0), n);
        due("count(2)", x.count(2), parts);
        due("count(4)", x.count(4), cuts);
        due("count(6)", x.count(6), twins);
    }

    private void checkWorn() {
        int left = wornSet();
        due("worn()", x.worn(), left);
        due("count(8)", x.count(8), Integer.bitCount(left));
    }

    private void checkBlocks(long[] block) {
        int bridges = 0;
        int blocks = 0;
        for (int arc = 0; arc < made; arc++) {
            int least = Long.numberOfTrailingZeros(block[arc]);
            due("bridge(" + arc + ")", x.bridge(arc), there[arc] ? isBridge(arc) ? 1 : 0 : -1);
            due("block(" + arc + ")", x.block(arc), there[arc] ? least : -1);
            bridges += there[arc] && isBridge(arc) ? 1 : 0;
            blocks += there[arc] && least == arc ? 1 : 0;
        }
        due("count(1)", x.count(1), thereList().length);
        due("count(3)", x.count(3), bridges);
        due("count(5)", x.count(5), blocks);
    }

    private void checkSplits(long[] block) {
        for (int e : thereList()) {
            List<Long> good = goodSplits(block[e]);
            boolean many = Long.bitCount(block[e]) > 14;
            int joined = 0;
            int least = -1;
            for (int f : thereList()) {
                boolean same = (block[e] >> f & 1) != 0;
                boolean parted = false;
                for (long set : good) {
                    parted |= (set >> e & 1) != (set >> f & 1);
                }
                joined += same && !parted ? 1 : 0;
                least = same && !parted && least < 0 ? f : least;
                due("together(" + e + ", " + f + ")", x.together(e, f), !same ? -3 : many ? -4 : parted ? 0 : 1);
            }
            due("splits(" + e + ", 0)", x.splits(e, 0), Long.bitCount(block[e]));
            due("splits(" + e + ", 1)", x.splits(e, 1), many ? -4 : good.size());
            due("splits(" + e + ", 2)", x.splits(e, 2), many ? -4 : joined);
            due("splits(" + e + ", 3)", x.splits(e, 3), many ? -4 : least);
        }
    }

    private void checkPair(int a, int b, boolean arcSets) {
        String of = "(" + a + ", " + b + ")";
        int[] side = leastSide(a, b);
        due("arcs" + of, x.arcs(a, b), arcSets ? fewestArcs(a, b) : side[1]);
        due("side" + of, x.side(a, b), side[0]);
        due("nodes" + of, x.nodes(a, b), hasArcBetween(a, b) ? -3 : fewestNodes(a, b));
        int between = one(a, b, there, 0) ? 0 : -3;
        for (int node = 0; node < n && between >= 0; node++) {
            between += node != a && node != b && !one(a, b, there, 1 << node) ? 1 : 0;
        }
        due("between" + of, x.between(a, b), between);
    }

    private void checkPairs(boolean arcSets) {
        for (int a = 0; a < n; a++) {
            for (int b = 0; b < n; b++) {
                if (a != b) {
                    checkPair(a, b, arcSets);
                }
            }
        }
    }

    private void checkNeeded() {
        int needed = needed(0, 0);
        due("count(7)", x.count(7), needed);
        for (int a = 0; a < n; a++) {
            for (int b = 0; b < n; b++) {
                if (a != b) {
                    due("mends(" + a + ", " + b + ")", x.mends(a, b), needed(a, b) < needed ? 1 : 0);
                }
            }
        }
    }

    private DefinitionTests withOneMore(int a, int b) {
        DefinitionTests more = new DefinitionTests(n, made + 1, name);
        for (int arc = 0; arc < made; arc++) {
            more.put(arc, first[arc], second[arc]);
            if (!there[arc]) {
                more.there[arc] = false;
                more.x.turn(arc);
            }
        }
        more.put(made, a, b);
        return more;
    }

    private boolean isWhole() {
        boolean whole = true;
        for (int node = 1; node < n; node++) {
            whole &= sameTwin(0, node);
        }
        return whole;
    }

    /**
     * No ARC makes more than one less NEEDED, and as long as one is NEEDED there is one that does; so those that do
     * come one by one, until all is whole, just when none is NEEDED.
     */
    private void checkNeededByOneMore() {
        int needed = x.count(7);
        DefinitionTests next = null;
        for (int a = 0; a < n; a++) {
            for (int b = a + 1; b < n; b++) {
                DefinitionTests more = withOneMore(a, b);
                int then = more.x.count(7);
                due("count(7) with one more, less by one at most", then >= needed - 1 && then <= needed ? 1 : 0, 1);
                due("mends(" + a + ", " + b + ")", x.mends(a, b), then < needed ? 1 : 0);
                due("mends(" + b + ", " + a + ")", x.mends(b, a), then < needed ? 1 : 0);
                next = then < needed && (next == null || dice(4) == 0) ? more : next;
            }
        }
        due("count(7), whole or not", needed == 0 ? 1 : 0, isWhole() ? 1 : 0);
        due("one that makes less NEEDED", next != null ? 1 : 0, needed > 0 ? 1 : 0);
        if (next != null && next.made < 40) {
            next.checkNeededByOneMore();
        }
    }

    private void layAnywhere() {
        for (int arc = 0; arc < made; arc++) {
            int a = dice(n);
            put(arc, a, (a + 1 + dice(n - 1)) % n);
        }
    }

    /** A BLOCK that is made by laying ARCS beside others and by putting NODES into them, and so has many SPLITS. */
    private void layBySeriesAndParallels() {
        int[] a = new int[made];
        int[] b = new int[made];
        a[0] = 0;
        b[0] = 1;
        int nodes = 2;
        for (int arc = 1; arc < made; arc++) {
            int old = dice(arc);
            a[arc] = a[old];
            b[arc] = b[old];
            if (nodes < n && dice(2) == 0) {
                b[old] = nodes;
                a[arc] = nodes;
                nodes++;
            } else if (nodes > 3 && dice(4) == 0) {
                a[arc] = dice(nodes);
                b[arc] = (a[arc] + 1 + dice(nodes - 1)) % nodes;
            }
        }
        for (int arc = 0; arc < made; arc++) {
            boolean round = dice(2) == 0;
            put(arc, round ? b[arc] : a[arc], round ? a[arc] : b[arc]);
        }
    }

    private static void smallGraphs() {
        for (int run = 0; run < 700; run++) {
            int n = 2 + dice(5);
            DefinitionTests g = new DefinitionTests(n, dice(11), "small");
            g.layAnywhere();
            g.turnSome();
            long[] block = g.blockSets();
            g.checkNodes();
            g.checkWorn();
            g.checkBlocks(block);
            g.checkSplits(block);
            g.checkPairs(true);
            for (int node = 0; node < n; node++) {
                g.checkWays(node);
            }
        }
    }

    private static void neededGraphs() {
        for (int run = 0; run < 300; run++) {
            DefinitionTests g = new DefinitionTests(1 + dice(5), 0, "needed");
            g.checkNeeded();
            DefinitionTests h = new DefinitionTests(2 + dice(5), 2 + dice(7), "needed");
            h.layAnywhere();
            h.turnSome();
            if (h.n < 6 || h.thereList().length > 3) {
                h.checkNeeded();
            }
        }
    }

    private static void splitGraphs() {
        for (int run = 0; run < 400; run++) {
            DefinitionTests g = new DefinitionTests(2 + dice(13), 4 + dice(12), "splits");
            g.layBySeriesAndParallels();
            if (dice(3) == 0) {
                g.turnSome();
            }
            long[] block = g.blockSets();
            g.checkBlocks(block);
            g.checkSplits(block);
            g.checkWorn();
            if (g.made < 12) {
                g.checkWays(0);
            }
        }
    }

    /** ARCS anywhere, and behind them a ring through all NODES, so that there is seldom a BRIDGE. */
    private void layRingAndMore() {
        int loose = made - n;
        for (int arc = 0; arc < made; arc++) {
            int a = arc < loose ? dice(n) : arc - loose;
            int b = arc < loose ? (a + 1 + dice(n - 1)) % n : (a + 1) % n;
            boolean round = dice(2) == 0;
            put(arc, round ? b : a, round ? a : b);
        }
    }

    private int[] namesByChance() {
        int[] names = new int[n];
        for (int i = 0; i < n; i++) {
            int other = dice(i + 1);
            names[i] = names[other];
            names[other] = i;
        }
        return names;
    }

    /** A ring of all NODES in an order by chance, and behind it ARCS beside those of the ring, or across. */
    private void layRingWithChords() {
        int[] names = namesByChance();
        for (int arc = 0; arc < made; arc++) {
            int a = arc < n ? arc : dice(n);
            int b = arc < n || dice(2) == 0 ? (a + 1) % n : (a + 1 + dice(n - 1)) % n;
            boolean round = dice(2) == 0;
            put(arc, names[round ? b : a], names[round ? a : b]);
        }
    }

    /** Rings that are as long as BLOCKS of 14 ARCS let them be have the most pairs of NODES that SPLIT. */
    private static void longRings() {
        for (int run = 0; run < 150; run++) {
            int n = 9 + dice(6);
            DefinitionTests g = new DefinitionTests(n, 14, "ring");
            g.layRingWithChords();
            long[] block = g.blockSets();
            g.checkBlocks(block);
            g.checkSplits(block);
        }
        for (int doubled = 0; doubled < 13; doubled++) {
            DefinitionTests g = new DefinitionTests(13, 14, "ring with one ARC twice");
            for (int arc = 0; arc < 14; arc++) {
                int a = arc < 13 ? arc : doubled;
                g.put(arc, a, (a + 1) % 13);
            }
            g.due("splits(13, 1)", g.x.splits(13, 1), 1);
            g.due("splits(13, 2)", g.x.splits(13, 2), 2);
            g.due("splits(13, 3)", g.x.splits(13, 3), doubled);
            g.due("together(13, " + doubled + ")", g.x.together(13, doubled), 1);
        }
    }

    /** Two or three crowds of NODES with many ARCS within, and few between. */
    private void layCrowds(int crowds) {
        int[] names = namesByChance();
        for (int arc = 0; arc < made; arc++) {
            int a = dice(n);
            int b = (a + 1 + dice(n - 1)) % n;
            for (int i = 0; i < 20 && a % crowds != b % crowds && arc >= crowds; i++) {
                b = (a + 1 + dice(n - 1)) % n;
            }
            put(arc, names[a], names[b]);
        }
    }

    private static void crowds() {
        for (int run = 0; run < 300; run++) {
            DefinitionTests g = new DefinitionTests(8 + dice(7), 18 + dice(23), "crowds");
            g.layCrowds(2 + dice(2));
            if (run % 2 == 0) {
                g.turnSome();
            }
            g.checkNodes();
            g.checkWorn();
        }
    }

    private static void largeWays() {
        for (int run = 0; run < 300; run++) {
            int n = 3 + dice(12);
            DefinitionTests g = new DefinitionTests(n, n + dice(41 - n), "ways");
            if (run % 3 == 0) {
                g.layAnywhere();
            } else {
                g.layRingAndMore();
            }
            if (run % 2 == 0) {
                g.turnSome();
            }
            for (int node = 0; node < n; node++) {
                if (Integer.numberOfTrailingZeros(g.reach(node, g.there, 0)) == node) {
                    g.checkWaysByWitness(node);
                }
            }
        }
    }

    private static void largeNeeded() {
        for (int run = 0; run < 40; run++) {
            DefinitionTests g = new DefinitionTests(7 + dice(8), dice(24), "needed");
            g.layAnywhere();
            g.turnSome();
            g.checkNeededByOneMore();
        }
    }

    /** A graph whose TWO-ARC PARTS are single NODES, with its BRIDGES as they may be: each forest there is. */
    private static void allForests() {
        for (int[] near : Forest.all()) {
            int n = near.length;
            DefinitionTests g = new DefinitionTests(n, n - 1, "forest");
            int arc = 0;
            for (int a = 0; a < n; a++) {
                for (int b = a + 1; b < n; b++) {
                    if ((near[a] >> b & 1) != 0) {
                        g.put(arc++, a, b);
                    }
                }
            }
            int needed = Forest.needed(near);
            g.due("count(7)", g.x.count(7), needed);
            for (int a = 0; a < n; a++) {
                for (int b = a + 1; b < n; b++) {
                    int then = Forest.needed(Forest.withOneMore(near, a, b));
                    g.due("mends(" + a + ", " + b + ")", g.x.mends(a, b), then < needed ? 1 : 0);
                }
            }
        }
    }

    private static void largeGraphs() {
        for (int run = 0; run < 24; run++) {
            DefinitionTests g = new DefinitionTests(14, 14 + dice(27), "large");
            g.layAnywhere();
            g.turnSome();
            g.checkNodes();
            g.checkWorn();
            for (int i = 0; i < 4; i++) {
                int a = dice(14);
                g.checkPair(a, (a + 1 + dice(13)) % 14, false);
            }
        }
    }

    public static void main(String[] args) {
        smallGraphs();
        neededGraphs();
        splitGraphs();
        longRings();
        crowds();
        largeGraphs();
        largeWays();
        largeNeeded();
        allForests();
        System.out.println(wrong == 0 ? "all answers are as due" : wrong + " answers are not as due");
        if (wrong != 0) {
            System.exit(1);
        }
    }
}
