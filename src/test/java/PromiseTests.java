import java.util.function.IntSupplier;

/** For each promise: ordinary inputs, the edges that the document names, and wrong inputs. */
public final class PromiseTests {
    private static int wrong = 0;
    private static String promise = "";

    private static void due(String call, int got, int want) {
        if (got != want) {
            wrong++;
            System.out.println(promise + ": " + call + " answered " + got + ", due is " + want);
        }
    }

    private static void unchanged(CutPoints x, String call, IntSupplier act, int want) {
        String before = state(x);
        due(call, act.getAsInt(), want);
        if (!before.equals(state(x))) {
            wrong++;
            System.out.println(promise + ": " + call + " changed something");
        }
    }

    /** The counts alone, as the document speaks of 512 calls and no more; EdgeTests looks at all. */
    private static String state(CutPoints x) {
        StringBuilder text = new StringBuilder();
        for (int what = 0; what <= 8; what++) {
            text.append(x.count(what)).append(' ');
        }
        return text.append(x.worn()).toString();
    }

    /** A graph with NODES 0 .. nodes - 1 and the ARCS whose two ends stand one behind the other. */
    private static CutPoints graph(int nodes, int... ends) {
        CutPoints x = new CutPoints();
        for (int i = 0; i < nodes; i++) {
            due("node()", x.node(), i);
        }
        for (int i = 0; i + 1 < ends.length; i += 2) {
            due("arc(" + ends[i] + ", " + ends[i + 1] + ")", x.arc(ends[i], ends[i + 1]), i / 2);
        }
        return x;
    }

    /** Two triangles 0 1 2 and 3 4 5 with the BRIDGE 2 3 between, and NODE 6 hanging on 5. */
    private static CutPoints chain() {
        return graph(7, 0, 1, 1, 2, 2, 0, 2, 3, 3, 4, 4, 5, 5, 3, 5, 6);
    }

    private static CutPoints ring(int nodes) {
        CutPoints x = graph(nodes);
        for (int i = 0; i < nodes; i++) {
            due("arc", x.arc(i, (i + 1) % nodes), i);
        }
        return x;
    }

    private static CutPoints parallel(int arcs) {
        CutPoints x = graph(2);
        for (int i = 0; i < arcs; i++) {
            due("arc(0, 1)", x.arc(0, 1), i);
        }
        return x;
    }

    private static void counts(CutPoints x, int... want) {
        for (int what = 0; what < want.length; what++) {
            due("count(" + what + ")", x.count(what), want[what]);
        }
    }

    private static void newObject() {
        CutPoints x = new CutPoints();
        counts(x, 0, 0, 0, 0, 0, 0, 0, 0, 0);
        due("worn()", x.worn(), 0);
        due("part(0)", x.part(0), -1);
        due("turn(0)", x.turn(0), -1);
        due("arc(0, 1)", x.arc(0, 1), -1);
        due("NONE", CutPoints.NONE, -1);
        CutPoints other = new CutPoints();
        other.node();
        due("count(0) of the first of two objects", x.count(0), 0);
    }

    private static void clear() {
        CutPoints x = chain();
        x.clear();
        counts(x, 0, 0, 0, 0, 0, 0, 0, 0, 0);
        due("part(0)", x.part(0), -1);
        due("turn(0)", x.turn(0), -1);
        due("bridge(0)", x.bridge(0), -1);
        due("worn()", x.worn(), 0);
        due("node()", x.node(), 0);
        due("node()", x.node(), 1);
        counts(x, 2, 0, 2, 0, 0, 0, 2, 2, 0);
        due("arc(1, 0)", x.arc(1, 0), 0);
        counts(x, 2, 1, 1, 1, 0, 1, 2, 1, 0);
        x.clear();
        x.clear();
        due("count(0)", x.count(0), 0);
        CutPoints full = parallel(40);
        full.clear();
        due("node()", full.node(), 0);
        due("node()", full.node(), 1);
        due("arc(0, 1)", full.arc(0, 1), 0);
        due("arcs(0, 1)", full.arcs(0, 1), 1);
    }

    private static void node() {
        CutPoints x = graph(14);
        unchanged(x, "node() with 14", x::node, -4);
        due("count(0)", x.count(0), 14);
        due("part(13)", x.part(13), 13);
        due("part(14)", x.part(14), -1);
        due("arc(13, 0)", x.arc(13, 0), 0);
        x.clear();
        due("node()", x.node(), 0);
    }

    private static void arc() {
        CutPoints x = graph(3);
        unchanged(x, "arc(0, 3)", () -> x.arc(0, 3), -1);
        unchanged(x, "arc(3, 0)", () -> x.arc(3, 0), -1);
        unchanged(x, "arc(-1, 0)", () -> x.arc(-1, 0), -1);
        unchanged(x, "arc(7, 7)", () -> x.arc(7, 7), -1);
        unchanged(x, "arc(1, 1)", () -> x.arc(1, 1), -3);
        due("arc(2, 0)", x.arc(2, 0), 0);
        due("count(1)", x.count(1), 1);
        due("bridge(0)", x.bridge(0), 1);
        due("turn(0)", x.turn(0), 0);
        due("arc(0, 2) behind one that is not THERE", x.arc(0, 2), 1);
        CutPoints full = parallel(40);
        unchanged(full, "arc(0, 1) with 40", () -> full.arc(0, 1), -4);
        unchanged(full, "arc(0, 2) with 40", () -> full.arc(0, 2), -1);
        unchanged(full, "arc(1, 1) with 40", () -> full.arc(1, 1), -3);
        due("count(1)", full.count(1), 40);
        due("turn(39)", full.turn(39), 0);
        unchanged(full, "arc(0, 1) with 40, one not THERE", () -> full.arc(0, 1), -4);
    }

    private static void turn() {
        CutPoints x = ring(3);
        unchanged(x, "turn(3)", () -> x.turn(3), -1);
        unchanged(x, "turn(-1)", () -> x.turn(-1), -1);
        unchanged(x, "turn(MAX)", () -> x.turn(Integer.MAX_VALUE), -1);
        due("turn(1)", x.turn(1), 0);
        counts(x, 3, 2, 1, 2, 1, 2, 3, 1, 0);
        due("bridge(1)", x.bridge(1), -1);
        due("block(1)", x.block(1), -1);
        due("way(1)", x.way(1), -1);
        due("splits(1, 0)", x.splits(1, 0), -1);
        due("together(0, 1)", x.together(0, 1), -1);
        due("together(1, 0)", x.together(1, 0), -1);
        due("turn(1)", x.turn(1), 1);
        counts(x, 3, 3, 1, 0, 0, 1, 1, 0, 0);
        due("way(1)", x.way(1), 1);
    }

    private static void count() {
        CutPoints x = chain();
        counts(x, 7, 8, 1, 2, 3, 4, 3, 1, 0);
        for (int what : new int[] {-1, 9, 10, Integer.MIN_VALUE, Integer.MAX_VALUE}) {
            unchanged(x, "count(" + what + ")", () -> x.count(what), -2);
        }
        counts(graph(1), 1, 0, 1, 0, 0, 0, 1, 0, 0);
        counts(graph(2), 2, 0, 2, 0, 0, 0, 2, 2, 0);
        counts(graph(2, 0, 1), 2, 1, 1, 1, 0, 1, 2, 1, 0);
        counts(graph(4, 0, 1, 0, 2, 0, 3), 4, 3, 1, 3, 1, 3, 4, 2, 0);
        counts(graph(6, 0, 1, 2, 3), 6, 2, 4, 2, 0, 2, 6, 4, 0);
        counts(graph(5, 0, 1, 1, 2, 2, 0, 2, 3, 3, 4, 4, 2), 5, 6, 1, 0, 1, 2, 1, 0, 0);
        counts(graph(4, 0, 1, 0, 2, 0, 3, 1, 2, 1, 3, 2, 3), 4, 6, 1, 0, 0, 1, 1, 0, 4);
        counts(graph(14), 14, 0, 14, 0, 0, 0, 14, 14, 0);
        counts(parallel(40), 2, 40, 1, 0, 0, 1, 1, 0, 0);
        counts(ring(14), 14, 14, 1, 0, 0, 1, 1, 0, 0);
    }

    private static void part() {
        CutPoints x = graph(6, 5, 4, 4, 2, 1, 3);
        int[] want = {0, 1, 2, 1, 2, 2};
        for (int i = 0; i < want.length; i++) {
            due("part(" + i + ")", x.part(i), want[i]);
        }
        due("part(6)", x.part(6), -1);
        due("part(-1)", x.part(-1), -1);
        x.turn(1);
        due("part(4)", x.part(4), 4);
        due("part(2)", x.part(2), 2);
    }

    private static void bridge() {
        CutPoints x = chain();
        int[] want = {0, 0, 0, 1, 0, 0, 0, 1};
        for (int i = 0; i < want.length; i++) {
            due("bridge(" + i + ")", x.bridge(i), want[i]);
        }
        due("bridge(8)", x.bridge(8), -1);
        due("bridge(-1)", x.bridge(-1), -1);
        due("arc(3, 2)", x.arc(3, 2), 8);
        due("bridge(3) with a second beside it", x.bridge(3), 0);
        due("turn(3)", x.turn(3), 0);
        due("bridge(3) not THERE", x.bridge(3), -1);
        due("bridge(8)", x.bridge(8), 1);
    }

    private static void falls() {
        CutPoints x = chain();
        int[] want = {1, 1, 2, 2, 1, 2, 1};
        for (int i = 0; i < want.length; i++) {
            due("falls(" + i + ")", x.falls(i), want[i]);
        }
        due("falls(7)", x.falls(7), -1);
        due("falls(-1)", x.falls(-1), -1);
        CutPoints star = graph(6, 0, 1, 0, 2, 0, 3, 4, 5);
        due("falls(0)", star.falls(0), 3);
        due("falls(4)", star.falls(4), 1);
        due("falls of one alone", graph(2).falls(1), 0);
    }

    private static void block() {
        CutPoints x = graph(5, 2, 3, 0, 1, 3, 4, 1, 2, 4, 2, 2, 0);
        int[] want = {0, 1, 0, 1, 0, 1};
        for (int i = 0; i < want.length; i++) {
            due("block(" + i + ")", x.block(i), want[i]);
        }
        due("block(6)", x.block(6), -1);
        due("block(-1)", x.block(-1), -1);
        x.turn(0);
        due("block(0) not THERE", x.block(0), -1);
        due("block(2)", x.block(2), 2);
        due("block(4)", x.block(4), 4);
        due("block(5)", x.block(5), 1);
        CutPoints two = graph(3, 1, 2, 0, 1, 1, 0, 2, 1);
        due("block(3)", two.block(3), 0);
        due("block(2)", two.block(2), 1);
    }

    private static void twin() {
        CutPoints x = chain();
        int[] want = {0, 0, 0, 3, 3, 3, 6};
        for (int i = 0; i < want.length; i++) {
            due("twin(" + i + ")", x.twin(i), want[i]);
        }
        due("twin(7)", x.twin(7), -1);
        due("twin(-1)", x.twin(-1), -1);
        CutPoints eight = graph(5, 0, 1, 1, 2, 2, 0, 2, 3, 3, 4, 4, 2);
        due("twin(4) by a CUT NODE", eight.twin(4), 0);
        due("twin without ARCS", graph(2).twin(1), 1);
    }

    private static void arcs() {
        CutPoints x = chain();
        due("arcs(0, 1)", x.arcs(0, 1), 2);
        due("arcs(0, 6)", x.arcs(0, 6), 1);
        due("arcs(0, 7)", x.arcs(0, 7), -1);
        due("arcs(-1, 0)", x.arcs(-1, 0), -1);
        due("arcs(9, 9)", x.arcs(9, 9), -1);
        due("arcs(2, 2)", x.arcs(2, 2), -3);
        x.turn(3);
        due("arcs(0, 3) of two PARTS", x.arcs(0, 3), 0);
        due("arcs(0, 1) of 40", parallel(40).arcs(0, 1), 40);
        CutPoints four = graph(4, 0, 1, 0, 2, 0, 3, 1, 2, 1, 3, 2, 3);
        due("arcs(0, 3)", four.arcs(0, 3), 3);
        due("arcs(3, 0)", four.arcs(3, 0), 3);
        // a way that must be given back in part: 0-1-2-5 bars 0-1-4-5 and 0-3-2-5
        CutPoints back = graph(6, 0, 1, 1, 2, 2, 5, 0, 3, 3, 2, 1, 4, 4, 5);
        due("arcs(0, 5)", back.arcs(0, 5), 2);
    }

    private static void side() {
        CutPoints x = chain();
        due("side(0, 6)", x.side(0, 6), 7);
        due("side(6, 0)", x.side(6, 0), 64);
        due("side(3, 0)", x.side(3, 0), 120);
        due("side(2, 6)", x.side(2, 6), 7);
        due("side(0, 1)", x.side(0, 1), 1);
        due("side(2, 0)", x.side(2, 0), 124);
        due("side(0, 7)", x.side(0, 7), -1);
        due("side(-1, -1)", x.side(-1, -1), -1);
        due("side(4, 4)", x.side(4, 4), -3);
        CutPoints two = graph(5, 0, 1, 2, 3);
        due("side(0, 2) of two PARTS", two.side(0, 2), 3);
        due("side(4, 0) of one alone", two.side(4, 0), 16);
        due("side(0, 1) of 40", parallel(40).side(0, 1), 1);
        due("side(1, 0) of 40", parallel(40).side(1, 0), 2);
        CutPoints path = graph(4, 0, 1, 1, 2, 2, 3);
        due("side(0, 3), the fewest NODES", path.side(0, 3), 1);
        due("side(3, 0), the fewest NODES", path.side(3, 0), 8);
    }

    private static void nodes() {
        CutPoints x = chain();
        due("nodes(0, 6)", x.nodes(0, 6), 1);
        due("nodes(0, 1)", x.nodes(0, 1), -3);
        due("nodes(1, 0)", x.nodes(1, 0), -3);
        due("nodes(0, 0)", x.nodes(0, 0), -3);
        due("nodes(0, 7)", x.nodes(0, 7), -1);
        due("nodes(-1, 0)", x.nodes(-1, 0), -1);
        due("nodes(8, 8)", x.nodes(8, 8), -1);
        x.turn(3);
        due("nodes(2, 3) of two PARTS", x.nodes(2, 3), 0);
        due("nodes(0, 3) on a ring", ring(6).nodes(0, 3), 2);
        CutPoints wide = graph(14);
        for (int i = 1; i < 13; i++) {
            wide.arc(0, i);
            wide.arc(i, 13);
        }
        due("nodes(0, 13)", wide.nodes(0, 13), 12);
        due("nodes(1, 2)", wide.nodes(1, 2), 2);
        // many ARCS, one NODE
        CutPoints thick = graph(3, 0, 1, 0, 1, 0, 1, 1, 2, 1, 2, 1, 2);
        due("nodes(0, 2)", thick.nodes(0, 2), 1);
        due("arcs(0, 2)", thick.arcs(0, 2), 3);
        CutPoints back = graph(6, 0, 1, 1, 2, 2, 5, 0, 3, 3, 2, 1, 4, 4, 5);
        due("nodes(0, 5)", back.nodes(0, 5), 2);
    }

    private static void between() {
        CutPoints x = chain();
        due("between(0, 6)", x.between(0, 6), 3);
        due("between(0, 1)", x.between(0, 1), 0);
        due("between(2, 3)", x.between(2, 3), 0);
        due("between(4, 1)", x.between(4, 1), 2);
        due("between(0, 7)", x.between(0, 7), -1);
        due("between(-3, -3)", x.between(-3, -3), -1);
        due("between(1, 1)", x.between(1, 1), -3);
        x.turn(3);
        due("between(0, 6) of two PARTS", x.between(0, 6), -3);
        due("between(0, 3) on a ring", ring(6).between(0, 3), 0);
    }

    private static void mends() {
        CutPoints x = chain();
        due("mends(6, 0)", x.mends(6, 0), 1);
        due("mends(0, 6)", x.mends(0, 6), 1);
        due("mends(6, 4)", x.mends(6, 4), 0);
        due("mends(0, 1)", x.mends(0, 1), 0);
        due("mends(0, 7)", x.mends(0, 7), -1);
        due("mends(9, 9)", x.mends(9, 9), -1);
        due("mends(5, 5)", x.mends(5, 5), -3);
        counts(x, 7, 8, 1, 2, 3, 4, 3, 1, 0);
        // a star of three needs 2, with any two leaves joined 1
        CutPoints star = graph(4, 0, 1, 0, 2, 0, 3);
        due("mends(1, 2)", star.mends(1, 2), 1);
        due("mends(0, 1)", star.mends(0, 1), 1);
        CutPoints alone = graph(2);
        due("mends(0, 1) without ARCS", alone.mends(0, 1), 1);
        CutPoints full = parallel(40);
        due("mends(0, 1) with 40", full.mends(0, 1), 0);
        due("node()", full.node(), 2);
        due("mends(0, 2) with 40", full.mends(0, 2), 1);
        due("count(1)", full.count(1), 40);
        due("mends where all is well", ring(5).mends(0, 2), 0);
    }

    private static void way() {
        CutPoints x = chain();
        due("way(0)", x.way(0), -3);
        due("way(8)", x.way(8), -1);
        due("way(-1)", x.way(-1), -1);
        x.turn(3);
        due("way(0) where another PART has a BRIDGE", x.way(0), 1);
        due("way(4)", x.way(4), -3);
        due("way(3) not THERE", x.way(3), -1);
        CutPoints both = graph(3, 0, 1, 2, 1, 2, 0);
        due("way(0)", both.way(0), 1);
        due("way(1)", both.way(1), 0);
        due("way(2)", both.way(2), 1);
        CutPoints same = parallel(3);
        due("way(0)", same.way(0), 1);
        due("way(1)", same.way(1), 1);
        due("way(2)", same.way(2), 0);
        CutPoints most = parallel(40);
        due("way(38)", most.way(38), 1);
        due("way(39)", most.way(39), 0);
    }

    private static void together() {
        CutPoints x = graph(6, 0, 1, 1, 2, 2, 3, 3, 4, 4, 5, 5, 0, 0, 3);
        due("together(0, 2)", x.together(0, 2), 1);
        due("together(0, 3)", x.together(0, 3), 0);
        due("together(6, 0)", x.together(6, 0), 0);
        due("together(4, 4)", x.together(4, 4), 1);
        due("together(0, 7)", x.together(0, 7), -1);
        due("together(-1, 0)", x.together(-1, 0), -1);
        CutPoints chain = chain();
        due("together(0, 4)", chain.together(0, 4), -3);
        due("together(3, 3)", chain.together(3, 3), 1);
        CutPoints many = parallel(15);
        due("together(0, 1) of 15", many.together(0, 1), -4);
        due("together(2, 2) of 15", many.together(2, 2), -4);
        due("together(0, 15)", many.together(0, 15), -1);
        due("node()", many.node(), 2);
        due("arc(1, 2)", many.arc(1, 2), 15);
        due("together(0, 15) of two BLOCKS", many.together(0, 15), -3);
        due("turn(0)", many.turn(0), 0);
        due("together(1, 14) of 14", many.together(1, 14), 1);
        due("together(0, 1) not THERE", many.together(0, 1), -1);
    }

    private static void splits() {
        CutPoints x = graph(6, 0, 1, 1, 2, 2, 3, 3, 4, 4, 5, 5, 0, 0, 3, 3, 0);
        int[][] want = {{8, 2, 3, 0}, {8, 2, 3, 3}, {8, 2, 2, 6}};
        for (int what = 0; what < 4; what++) {
            due("splits(1, " + what + ")", x.splits(1, what), want[0][what]);
            due("splits(5, " + what + ")", x.splits(5, what), want[1][what]);
            due("splits(7, " + what + ")", x.splits(7, what), want[2][what]);
        }
        due("splits(0, 4)", x.splits(0, 4), -2);
        due("splits(0, -1)", x.splits(0, -1), -2);
        due("splits(8, 9)", x.splits(8, 9), -1);
        due("splits(-1, 0)", x.splits(-1, 0), -1);
        CutPoints lone = graph(2, 0, 1);
        due("splits(0, 0)", lone.splits(0, 0), 1);
        due("splits(0, 1)", lone.splits(0, 1), 0);
        due("splits(0, 2)", lone.splits(0, 2), 1);
        due("splits(0, 3)", lone.splits(0, 3), 0);
        CutPoints ring = ring(14);
        due("splits(13, 0) of 14", ring.splits(13, 0), 14);
        due("splits(13, 1) of 14", ring.splits(13, 1), 0);
        due("splits(13, 2) of 14", ring.splits(13, 2), 14);
        due("splits(13, 3) of 14", ring.splits(13, 3), 0);
        due("arc(0, 7)", ring.arc(0, 7), 14);
        due("splits(13, 0) of 15", ring.splits(13, 0), 15);
        for (int what = 1; what < 4; what++) {
            due("splits(13, " + what + ") of 15", ring.splits(13, what), -4);
        }
        due("splits(13, 4) of 15", ring.splits(13, 4), -2);
        // K4 with one ARC twice: the pair is GOOD; each for itself the least of its set
        CutPoints four = graph(4, 0, 1, 0, 2, 0, 3, 1, 2, 1, 3, 2, 3, 3, 2);
        due("splits(0, 1)", four.splits(0, 1), 1);
        due("splits(0, 2)", four.splits(0, 2), 5);
        due("splits(6, 3)", four.splits(6, 3), 5);
        // of the longest ring that has one ARC twice, these two at the last NODES
        CutPoints last = graph(14, 1, 2, 2, 3, 3, 4, 4, 5, 5, 6, 6, 7, 7, 8, 8, 9, 9, 10, 10, 11, 11, 12, 12, 13, 13, 1, 13, 12);
        due("splits(0, 1)", last.splits(0, 1), 1);
        due("splits(0, 2)", last.splits(0, 2), 12);
        due("splits(13, 3)", last.splits(13, 3), 11);
        // two NODES with three ways of two ARCS: each way is a GOOD SPLIT
        CutPoints three = graph(5, 0, 2, 2, 1, 0, 3, 3, 1, 0, 4, 4, 1);
        due("splits(0, 1)", three.splits(0, 1), 3);
        due("splits(3, 3)", three.splits(3, 3), 2);
    }

    private static void worn() {
        due("worn() of a ring", ring(9).worn(), 0);
        due("worn() of a tree", graph(4, 0, 1, 0, 2, 0, 3).worn(), 0);
        CutPoints x = graph(7, 2, 3, 2, 4, 2, 5, 3, 4, 3, 5, 4, 0, 0, 5, 1, 2, 1, 3, 6, 0);
        due("worn()", x.worn(), 60);
        due("count(8)", x.count(8), 4);
        // NODES of many ARCS to two others go, too
        due("worn() of 40", parallel(40).worn(), 0);
        // K(3,3) stays, and with one ARC less its two NODES go
        CutPoints six = graph(6, 0, 3, 0, 4, 0, 5, 1, 3, 1, 4, 1, 5, 2, 3, 2, 4, 2, 5);
        due("worn()", six.worn(), 63);
        due("turn(8)", six.turn(8), 0);
        due("worn()", six.worn(), 27);
        due("turn(8)", six.turn(8), 1);
        due("worn()", six.worn(), 63);
        due("count(1)", six.count(1), 9);
        // two of four NODES, each with a NODE in one ARC; these two go, but not with the BRIDGE between them
        CutPoints two = graph(10, 0, 1, 0, 2, 0, 3, 1, 2, 1, 3, 2, 4, 4, 3, 5, 6, 5, 7, 5, 8, 6, 7, 6, 8, 7, 9, 9, 8, 4, 9);
        due("worn() with a BRIDGE", two.worn(), 1023);
        due("bridge(14)", two.bridge(14), 1);
        due("turn(14)", two.turn(14), 0);
        due("worn() without it", two.worn(), 495);
        due("count(8)", two.count(8), 8);
    }

    private static void run(String name, Runnable test) {
        promise = name;
        test.run();
    }

    public static void main(String[] args) {
        run("promise 1", PromiseTests::newObject);
        run("promise 2", PromiseTests::clear);
        run("promise 3", PromiseTests::node);
        run("promise 4", PromiseTests::arc);
        run("promise 5", PromiseTests::turn);
        run("promise 6", PromiseTests::count);
        run("promise 7", PromiseTests::part);
        run("promise 8", PromiseTests::bridge);
        run("promise 9", PromiseTests::falls);
        run("promise 10", PromiseTests::block);
        run("promise 11", PromiseTests::twin);
        run("promise 12", PromiseTests::arcs);
        run("promise 13", PromiseTests::side);
        run("promise 14", PromiseTests::nodes);
        run("promise 15", PromiseTests::between);
        run("promise 16", PromiseTests::mends);
        run("promise 17", PromiseTests::way);
        run("promise 18", PromiseTests::together);
        run("promise 19", PromiseTests::splits);
        run("promise 20", PromiseTests::worn);
        System.out.println(wrong == 0 ? "all answers are as due" : wrong + " answers are not as due");
        if (wrong != 0) {
            System.exit(1);
        }
    }
}
