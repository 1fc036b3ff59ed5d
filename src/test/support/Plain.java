import java.util.ArrayList;
import java.util.HashMap;
import java.util.List;
import java.util.Map;

/** The document's words, tried out on what is THERE; NODES and ARCS are all that it remembers. */
final class Plain {
    int n = 0;
    int made = 0;
    final int[] first = new int[41];
    final int[] second = new int[41];
    long there = 0;
    /** What was found for the graph as it is, so that a question that comes twice is not tried out twice. */
    private final Map<Long, List<Long>> goodOf = new HashMap<>();
    private final Map<Integer, Long> blockOf = new HashMap<>();

    Plain() {
    }

    Plain(Plain other) {
        n = other.n;
        made = other.made;
        there = other.there;
        System.arraycopy(other.first, 0, first, 0, first.length);
        System.arraycopy(other.second, 0, second, 0, second.length);
    }

    private static boolean has(long set, int number) {
        return (set >> number & 1) != 0;
    }

    private boolean isNode(int node) {
        return node >= 0 && node < n;
    }

    boolean isThere(int arc) {
        return arc >= 0 && arc < made && has(there, arc);
    }

    int answer(Call call) {
        int a = call.a();
        int b = call.b();
        switch (call.kind()) {
            case "clear":
                n = 0;
                made = 0;
                there = 0;
                return changed(0);
            case "node":
                return n == 14 ? -4 : changed(n++);
            case "turn":
                return a < 0 || a >= made ? -1 : turned(a);
            case "count":
                return counted(a);
            case "worn":
                return worn();
            case "part":
            case "falls":
            case "twin":
                return isNode(a) ? ofNode(call.kind(), a) : -1;
            case "bridge":
            case "block":
            case "way":
                return isThere(a) ? ofArc(call.kind(), a) : -1;
            case "together":
                return isThere(a) && isThere(b) ? together(a, b) : -1;
            case "splits":
                return !isThere(a) ? -1 : b < 0 || b > 3 ? -2 : splits(a, b);
            default:
                return !isNode(a) || !isNode(b) ? -1 : a == b ? -3 : ofNodes(call.kind(), a, b);
        }
    }

    private int changed(int answer) {
        goodOf.clear();
        blockOf.clear();
        return answer;
    }

    private int turned(int arc) {
        there ^= 1L << arc;
        return changed(has(there, arc) ? 1 : 0);
    }

    private int ofNode(String kind, int node) {
        switch (kind) {
            case "part":
                return least(reach(node, there, 0));
            case "falls":
                return falls(node);
            default:
                return least(twins(node));
        }
    }

    private int ofArc(String kind, int arc) {
        switch (kind) {
            case "bridge":
                return isBridge(arc) ? 1 : 0;
            case "block":
                return Long.numberOfTrailingZeros(block(arc));
            default:
                return way(arc);
        }
    }

    private int ofNodes(String kind, int a, int b) {
        switch (kind) {
            case "arc":
                return made == 40 ? -4 : laid(a, b);
            case "arcs":
                return leading(side(a, b));
            case "side":
                return side(a, b);
            case "nodes":
                return isBetween(a, b) ? -3 : fewestNodes(a, b);
            case "between":
                return has(reach(a, there, 0), b) ? between(a, b) : -3;
            default:
                return mends(a, b);
        }
    }

    private int laid(int a, int b) {
        first[made] = a;
        second[made] = b;
        there |= 1L << made;
        made++;
        return changed(made - 1);
    }

    private static int least(int set) {
        return Integer.numberOfTrailingZeros(set);
    }

    /** The NODES to which there are WAYS from one, with some ARCS alone and without the NODES that are lost. */
    private int reach(int from, long arcs, int lost) {
        int seen = 1 << from;
        int before = 0;
        while (seen != before) {
            before = seen;
            for (int arc = 0; arc <= made; arc++) {
                int ends = 1 << first[arc] | 1 << second[arc];
                if (has(arcs, arc) && (ends & lost) == 0 && (ends & seen) != 0) {
                    seen |= ends;
                }
            }
        }
        return seen;
    }

    private boolean isBridge(int arc) {
        return !has(reach(first[arc], there & ~(1L << arc), 0), second[arc]);
    }

    private int falls(int node) {
        int others = reach(node, there, 0) & ~(1 << node);
        int parts = 0;
        while (others != 0) {
            others &= ~reach(least(others), there, 1 << node);
            parts++;
        }
        return parts;
    }

    /** The NODES that are in one PART with one, whatever ARC is lost. */
    private int twins(int node) {
        int twins = reach(node, there, 0);
        for (int arc = 0; arc <= made; arc++) {
            if (has(there, arc)) {
                twins &= reach(node, there & ~(1L << arc), 0);
            }
        }
        return twins;
    }

    /** With a NODE more in the middle of each of the two ARCS: no LOSS of one other NODE parts these two. */
    private boolean onOneRing(int e, int f) {
        long others = there & ~(1L << e) & ~(1L << f);
        for (int lost = 0; lost < n; lost++) {
            int from = (1 << first[e] | 1 << second[e]) & ~(1 << lost);
            int to = (1 << first[f] | 1 << second[f]) & ~(1 << lost);
            boolean joined = false;
            for (int node = 0; node < n; node++) {
                joined |= has(from, node) && (reach(node, others, 1 << lost) & to) != 0;
            }
            if (!joined) {
                return false;
            }
        }
        return true;
    }

    long block(int arc) {
        if (!blockOf.containsKey(arc)) {
            long found = 1L << arc;
            for (int other = 0; other < made; other++) {
                if (has(there, other) && other != arc && onOneRing(arc, other)) {
                    found |= 1L << other;
                }
            }
            blockOf.put(arc, found);
        }
        return blockOf.get(arc);
    }

    private int leading(int set) {
        int lead = 0;
        for (int arc = 0; arc < made; arc++) {
            lead += has(there, arc) && has(set, first[arc]) != has(set, second[arc]) ? 1 : 0;
        }
        return lead;
    }

    private int side(int a, int b) {
        int best = -1;
        int bestLead = 0;
        for (int set = 0; set < 1 << n; set++) {
            if (has(set, a) && !has(set, b)) {
                int lead = leading(set);
                boolean less = best < 0 || lead < bestLead
                        || lead == bestLead && Integer.bitCount(set) < Integer.bitCount(best);
                best = less ? set : best;
                bestLead = less ? lead : bestLead;
            }
        }
        return best;
    }

    private boolean isBetween(int a, int b) {
        for (int arc = 0; arc < made; arc++) {
            int ends = 1 << first[arc] | 1 << second[arc];
            if (has(there, arc) && ends == (1 << a | 1 << b)) {
                return true;
            }
        }
        return false;
    }

    private int fewestNodes(int a, int b) {
        int others = (1 << n) - 1 & ~(1 << a) & ~(1 << b);
        int best = Integer.bitCount(others);
        for (int lost = others; ; lost = lost - 1 & others) {
            if (Integer.bitCount(lost) < best && !has(reach(a, there, lost), b)) {
                best = Integer.bitCount(lost);
            }
            if (lost == 0) {
                return best;
            }
        }
    }

    private int between(int a, int b) {
        int found = 0;
        for (int node = 0; node < n; node++) {
            found += node != a && node != b && !has(reach(a, there, 1 << node), b) ? 1 : 0;
        }
        return found;
    }

    private int mends(int a, int b) {
        int before = needed();
        first[made] = a;
        second[made] = b;
        there |= 1L << made;
        int then = needed();
        there &= ~(1L << made);
        return then < before ? 1 : 0;
    }

    /** New ARCS within a TWO-ARC PART are of no use, so each may be taken as one NODE of a forest. */
    private int needed() {
        int left = (1 << n) - 1;
        List<Integer> whole = new ArrayList<>();
        while (left != 0) {
            whole.add(twins(least(left)));
            left &= ~twins(least(left));
        }
        int[] near = new int[whole.size()];
        for (int arc = 0; arc <= made; arc++) {
            for (int i = 0; i < near.length && has(there, arc); i++) {
                for (int j = 0; j < near.length; j++) {
                    boolean joins = has(whole.get(i), first[arc]) && has(whole.get(j), second[arc]) && i != j;
                    near[i] |= joins ? 1 << j : 0;
                    near[j] |= joins ? 1 << i : 0;
                }
            }
        }
        return Forest.needed(near);
    }

    private int counted(int what) {
        int found = 0;
        switch (what) {
            case 0:
                return n;
            case 1:
                return Long.bitCount(there);
            case 7:
                return needed();
            case 8:
                return Integer.bitCount(worn());
            default:
                for (int node = 0; node < n; node++) {
                    found += what == 2 && least(reach(node, there, 0)) == node ? 1 : 0;
                    found += what == 4 && falls(node) > 1 ? 1 : 0;
                    found += what == 6 && least(twins(node)) == node ? 1 : 0;
                }
                for (int arc = 0; arc < made; arc++) {
                    found += what == 3 && has(there, arc) && isBridge(arc) ? 1 : 0;
                    found += what == 5 && has(there, arc) && block(arc) == (block(arc) & -1L << arc) ? 1 : 0;
                }
                return what < 0 || what > 8 ? -2 : found;
        }
    }

    private int way(int arc) {
        int part = reach(first[arc], there, 0);
        long ofPart = 0;
        for (int other = 0; other < made; other++) {
            if (has(there, other) && has(part, first[other])) {
                ofPart |= 1L << other;
                if (isBridge(other)) {
                    return -3;
                }
            }
        }
        return has(firstStrong(part, ofPart, 0, 0), arc) ? 1 : 0;
    }

    /** FORTH is tried before BACK, ARC by ARC; as soon as one can't come from each to each, one step back. */
    private long firstStrong(int part, long ofPart, long forth, long back) {
        if (!comesFromEachToEach(part, ofPart & ~back, ofPart & ~forth)) {
            return -1;
        }
        long open = Long.lowestOneBit(ofPart & ~forth & ~back);
        if (open == 0) {
            return forth;
        }
        long found = firstStrong(part, ofPart, forth | open, back);
        return found >= 0 ? found : firstStrong(part, ofPart, forth, back | open);
    }

    private boolean comesFromEachToEach(int part, long mayForth, long mayBack) {
        for (int start = 0; start < n; start++) {
            int seen = 1 << start;
            int before = 0;
            while (seen != before) {
                before = seen;
                for (int arc = 0; arc < made; arc++) {
                    seen |= has(mayForth, arc) && has(seen, first[arc]) ? 1 << second[arc] : 0;
                    seen |= has(mayBack, arc) && has(seen, second[arc]) ? 1 << first[arc] : 0;
                }
            }
            if (has(part, start) && seen != part) {
                return false;
            }
        }
        return true;
    }

    private int nodesOf(long arcs) {
        int set = 0;
        for (int arc = 0; arc < made; arc++) {
            set |= has(arcs, arc) ? 1 << first[arc] | 1 << second[arc] : 0;
        }
        return set;
    }

    private List<Long> good(long block) {
        if (!goodOf.containsKey(block)) {
            goodOf.put(block, findGood(block));
        }
        return goodOf.get(block);
    }

    private List<Long> findGood(long block) {
        List<Long> all = new ArrayList<>();
        for (long set = block; set != 0; set = set - 1 & block) {
            boolean two = Long.bitCount(set) > 1 && Long.bitCount(block & ~set) > 1;
            boolean once = (set & Long.lowestOneBit(block)) != 0;
            if (two && once && Integer.bitCount(nodesOf(set) & nodesOf(block & ~set)) == 2) {
                all.add(set);
            }
        }
        List<Long> good = new ArrayList<>();
        for (long set : all) {
            boolean crossed = false;
            for (int i = 0; i < all.size() && !crossed; i++) {
                long other = all.get(i);
                crossed = (set & other) != 0 && (set & ~other) != 0 && (other & ~set) != 0
                        && (block & ~set & ~other) != 0;
            }
            if (!crossed) {
                good.add(set);
            }
        }
        return good;
    }

    private long joined(int arc, long block) {
        long joined = block;
        for (long set : good(block)) {
            joined &= has(set, arc) ? set : ~set;
        }
        return joined;
    }

    private int together(int e, int f) {
        long block = block(e);
        if (!has(block, f)) {
            return -3;
        }
        return Long.bitCount(block) > 14 ? -4 : has(joined(e, block), f) ? 1 : 0;
    }

    private int splits(int arc, int what) {
        long block = block(arc);
        if (what == 0) {
            return Long.bitCount(block);
        }
        if (Long.bitCount(block) > 14) {
            return -4;
        }
        long joined = joined(arc, block);
        return what == 1 ? good(block).size()
                : what == 2 ? Long.bitCount(joined) : Long.numberOfTrailingZeros(joined);
    }

    /** As the order is free, the greatest NODE that can goes first. */
    private int worn() {
        int[] near = new int[n];
        for (int arc = 0; arc < made; arc++) {
            if (has(there, arc)) {
                near[first[arc]] |= 1 << second[arc];
                near[second[arc]] |= 1 << first[arc];
            }
        }
        int left = (1 << n) - 1;
        for (int node = n - 1; node >= 0; node--) {
            int others = n == 0 ? 0 : near[node] & left;
            if (has(left, node) && Integer.bitCount(others) <= 2) {
                left &= ~(1 << node);
                for (int v = 0; v < n; v++) {
                    near[v] |= has(others, v) ? others & ~(1 << v) : 0;
                }
                node = n;
            }
        }
        return left;
    }

    @Override
    public String toString() {
        StringBuilder text = new StringBuilder().append(n).append(" NODES, ARCS");
        for (int arc = 0; arc < made; arc++) {
            text.append(' ').append(first[arc]).append('-').append(second[arc]).append(isThere(arc) ? "" : "(not)");
        }
        return text.toString();
    }
}
