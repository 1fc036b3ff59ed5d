import java.lang.reflect.InvocationTargetException;
import java.lang.reflect.Method;
import java.util.ArrayList;
import java.util.List;
import java.util.Map;
import java.util.TreeMap;
import java.util.function.Supplier;

/**
 * A test for each sentence of the document that names a boundary case: the empty and the full object, the last that
 * has room and the first that has none, numbers beside each range, ARCS that were turned, each code of each call.
 * A test is a method without parameters; its name begins with its promise, or with "terms".
 */
public final class EdgeTests {
    private static final int LEAST = Integer.MIN_VALUE;
    private static final int MOST = Integer.MAX_VALUE;
    private static final int MOST_CALLS = 512;
    /** Beside each range, and what a shift or a cast to less bits would take for a number that is known. */
    private static final int[] ODD = {
        LEAST, LEAST + 1, -65536, -256, -64, -40, -32, -14, -2, -1, 0, 1, 2, 3, 8, 9, 13, 14, 15, 16, 31, 32, 33, 39, 40,
        41, 63, 64, 65, 256, 65536, MOST - 1, MOST};
    private static final String[] OF_NODE = {"part", "falls", "twin"};
    private static final String[] OF_NODES = {"arc", "arcs", "side", "nodes", "between", "mends"};
    private static final String[] OF_ARC = {"bridge", "block", "way"};

    private static int wrong = 0;
    private static String test = "";

    private static void fault(String text) {
        wrong++;
        System.out.println(test + ": " + text);
    }

    private static String call(String name, int... numbers) {
        StringBuilder text = new StringBuilder(name).append('(');
        for (int i = 0; i < numbers.length; i++) {
            text.append(i == 0 ? "" : ", ").append(numbers[i]);
        }
        return text.append(')').toString();
    }

    /** One object and the calls that it was given. */
    private static final class Run {
        private final CutPoints x = new CutPoints();
        private final List<String> given = new ArrayList<>();
        private int arcs = 0;

        int ask(String call) {
            given.add(call);
            if (given.size() > MOST_CALLS) {
                fault("the test makes more calls than the document speaks of");
            }
            int bracket = call.indexOf('(');
            String inside = call.substring(bracket + 1, call.length() - 1);
            String[] told = inside.isEmpty() ? new String[0] : inside.split(", ");
            int a = told.length > 0 ? Integer.parseInt(told[0]) : 0;
            int b = told.length > 1 ? Integer.parseInt(told[1]) : 0;
            return answer(call.substring(0, bracket), a, b);
        }

        private int answer(String name, int a, int b) {
            switch (name) {
                case "clear":
                    x.clear();
                    arcs = 0;
                    return 0;
                case "node":
                    return x.node();
                case "arc":
                    int made = x.arc(a, b);
                    arcs += made >= 0 ? 1 : 0;
                    return made;
                case "turn":
                    return x.turn(a);
                case "count":
                    return x.count(a);
                case "part":
                    return x.part(a);
                case "bridge":
                    return x.bridge(a);
                case "falls":
                    return x.falls(a);
                case "block":
                    return x.block(a);
                case "twin":
                    return x.twin(a);
                case "arcs":
                    return x.arcs(a, b);
                case "side":
                    return x.side(a, b);
                case "nodes":
                    return x.nodes(a, b);
                case "between":
                    return x.between(a, b);
                case "mends":
                    return x.mends(a, b);
                case "way":
                    return x.way(a);
                case "together":
                    return x.together(a, b);
                case "splits":
                    return x.splits(a, b);
                case "worn":
                    return x.worn();
                default:
                    throw new IllegalArgumentException(name);
            }
        }

        Run due(String call, int want) {
            int got = ask(call);
            if (got != want) {
                fault(call + " behind " + given.subList(0, given.size() - 1) + " answered " + got + ", due is " + want);
            }
            return this;
        }

        Run due(int want, String... calls) {
            for (String call : calls) {
                due(call, want);
            }
            return this;
        }

        Run nodes(int from, int behind) {
            for (int node = from; node < behind; node++) {
                due("node()", node);
            }
            return this;
        }

        /** ARCS whose two NODES stand one behind the other. */
        Run lay(int... ends) {
            for (int i = 0; i + 1 < ends.length; i += 2) {
                due(call("arc", ends[i], ends[i + 1]), arcs);
            }
            return this;
        }

        Run layMany(int count, int a, int b) {
            for (int i = 0; i < count; i++) {
                lay(a, b);
            }
            return this;
        }

        Run away(int... numbers) {
            for (int arc : numbers) {
                due(call("turn", arc), 0);
            }
            return this;
        }

        Run back(int... numbers) {
            for (int arc : numbers) {
                due(call("turn", arc), 1);
            }
            return this;
        }

        Run counts(int... want) {
            for (int what = 0; what < want.length; what++) {
                due(call("count", what), want[what]);
            }
            return this;
        }

        Run splits(int arc, int... want) {
            for (int what = 0; what < want.length; what++) {
                due(call("splits", arc, what), want[what]);
            }
            return this;
        }

        Run again() {
            Run twin = new Run();
            for (String call : given) {
                twin.ask(call);
            }
            return twin;
        }

        Map<String, Integer> answers(List<String> calls) {
            Map<String, Integer> found = new TreeMap<>();
            for (int i = 0; i < calls.size(); i++) {
                found.put(i + " " + calls.get(i), ask(calls.get(i)));
            }
            return found;
        }

        /** Each of the calls is answered by the code, and behind them all is as if there had been none. */
        Run refuses(int code, String... calls) {
            Run asked = again();
            asked.due(code, calls);
            same(asked, again(), "with or without " + String.join(", ", calls), all());
            return this;
        }

        Run refuses(int code, List<String> calls) {
            return refuses(code, calls.toArray(new String[0]));
        }
    }

    private static void same(Run one, Run other, String why, List<String> calls) {
        Map<String, Integer> left = one.answers(calls);
        Map<String, Integer> right = other.answers(calls);
        for (String key : left.keySet()) {
            if (!left.get(key).equals(right.get(key))) {
                fault(key + " answers " + left.get(key) + " and " + right.get(key) + ", " + why);
                return;
            }
        }
    }

    /** What only asks. */
    private static List<String> questions() {
        List<String> calls = new ArrayList<>();
        for (int what = 0; what <= 8; what++) {
            calls.add(call("count", what));
        }
        calls.add("worn()");
        for (int a = 0; a <= 14; a++) {
            for (String name : OF_NODE) {
                calls.add(call(name, a));
            }
            for (int b = a + 1; b < 14; b++) {
                calls.add(call("arcs", a, b));
            }
        }
        for (int arc = 0; arc <= 40; arc++) {
            for (String name : OF_ARC) {
                calls.add(call(name, arc));
            }
            calls.add(call("splits", arc, 2));
        }
        return calls;
    }

    /** What shows by changes which numbers come next, and which ARCS have been. */
    private static List<String> changes() {
        List<String> calls = new ArrayList<>(List.of("node()", "arc(0, 1)"));
        for (int arc = 0; arc <= 40; arc++) {
            calls.add(call("turn", arc));
        }
        for (int what = 0; what <= 8; what++) {
            calls.add(call("count", what));
        }
        return calls;
    }

    private static List<String> all() {
        List<String> calls = questions();
        calls.addAll(changes());
        return calls;
    }

    private static int[] unknown(int known) {
        List<Integer> list = new ArrayList<>();
        for (int number : ODD) {
            if (number < 0 || number >= known) {
                list.add(number);
            }
        }
        return list.stream().mapToInt(Integer::intValue).toArray();
    }

    private static List<String> calls(String name, int[] first) {
        List<String> calls = new ArrayList<>();
        for (int number : first) {
            calls.add(call(name, number));
        }
        return calls;
    }

    /** Of each number a call with it and the other, in both orders, and one with it alone in both places. */
    private static List<String> calls(String name, int[] numbers, int other) {
        List<String> calls = new ArrayList<>();
        for (int number : numbers) {
            calls.add(call(name, number, other));
            calls.add(call(name, other, number));
            calls.add(call(name, number, number));
        }
        return calls;
    }

    private static void refusesEach(Supplier<Run> maker, int code, List<String> calls) {
        for (int from = 0; from < calls.size(); from += 30) {
            maker.get().refuses(code, calls.subList(from, Math.min(from + 30, calls.size())));
        }
    }

    private static void unknownNode(String name) {
        refusesEach(Run::new, -1, calls(name, unknown(0)));
        refusesEach(() -> nodes(1), -1, calls(name, unknown(1)));
        refusesEach(EdgeTests::mixed, -1, calls(name, unknown(8)));
        refusesEach(EdgeTests::full, -1, calls(name, unknown(14)));
        refusesEach(() -> full().due("clear()", 0), -1, calls(name, unknown(0)));
    }

    private static void unknownNodes(String name) {
        refusesEach(Run::new, -1, calls(name, unknown(0), 0));
        refusesEach(() -> nodes(1), -1, calls(name, unknown(1), 0));
        refusesEach(EdgeTests::mixed, -1, calls(name, unknown(8), 7));
        refusesEach(EdgeTests::full, -1, calls(name, unknown(14), 13));
        refusesEach(() -> full().due("clear()", 0), -1, calls(name, unknown(0), 13));
    }

    private static void oneNode(String name) {
        nodes(1).refuses(-3, call(name, 0, 0));
        for (Supplier<Run> maker : List.<Supplier<Run>>of(() -> nodes(14), () -> ring(14), EdgeTests::full)) {
            List<String> calls = new ArrayList<>();
            for (int node = 0; node < 14; node++) {
                calls.add(call(name, node, node));
            }
            refusesEach(maker, -3, calls);
        }
    }

    private static void unknownArc(String name) {
        refusesEach(Run::new, -1, calls(name, unknown(0)));
        refusesEach(() -> nodes(14), -1, calls(name, unknown(0)));
        refusesEach(EdgeTests::mixed, -1, calls(name, unknown(8)));
        refusesEach(EdgeTests::full, -1, calls(name, unknown(40)));
        refusesEach(() -> full().due("clear()", 0), -1, calls(name, unknown(0)));
        refusesEach(() -> full().due("clear()", 0).nodes(0, 2).lay(0, 1), -1, calls(name, unknown(1)));
    }

    /** A refused ARC has never been, so that no call knows it. */
    private static Run afterRefusedArcs() {
        return nodes(2).due(-1, "arc(0, 2)", "arc(2, 0)").due("arc(1, 1)", -3);
    }

    private static Run nodes(int count) {
        return new Run().nodes(0, count);
    }

    private static Run parallel(int arcs) {
        return nodes(2).layMany(arcs, 0, 1);
    }

    private static Run path(int count) {
        Run run = nodes(count);
        for (int node = 0; node + 1 < count; node++) {
            run.lay(node, node + 1);
        }
        return run;
    }

    private static Run ring(int count) {
        return path(count).lay(count - 1, 0);
    }

    private static Run star(int count) {
        Run run = nodes(count);
        for (int node = 1; node < count; node++) {
            run.lay(0, node);
        }
        return run;
    }

    private static Run four() {
        return nodes(4).lay(0, 1, 0, 2, 0, 3, 1, 2, 1, 3, 2, 3);
    }

    /** NODES 0 and 1 with rows of two ARCS between: 2 i from 0 to NODE i + 2, and 2 i + 1 from there to 1. */
    private static Run rows(int count) {
        Run run = nodes(count + 2);
        for (int i = 0; i < count; i++) {
            run.lay(0, i + 2, i + 2, 1);
        }
        return run;
    }

    /** Triangle 0 1 2 (ARCS 0 to 2), BRIDGE 3, a pair 4 5, ARC 6 turned away, 5 and 6 with ARC 7, and 7 alone. */
    private static Run mixed() {
        return nodes(8).lay(0, 1, 1, 2, 2, 0, 2, 3, 3, 4, 3, 4, 4, 0, 5, 6).away(6);
    }

    /** All NODES and ARCS that have room: ARCS to the next NODE (0 to 13), the second (14 to 27), the third. */
    private static Run full() {
        Run run = nodes(14);
        for (int i = 0; i < 40; i++) {
            run.lay(i % 14, (i + 1 + i / 14) % 14);
        }
        return run;
    }

    // ---- Terms ----

    private static void terms_nodesHaveNumbersFrom0And14AtMost() {
        nodes(14).refuses(-4, "node()").due("part(0)", 0).due("part(13)", 13).refuses(-1, "part(14)", "part(-1)");
    }

    private static void terms_arcsHaveNumbersFrom0And40AtMost() {
        full().refuses(-4, "arc(0, 1)", "arc(13, 0)").due("bridge(0)", 0).due("bridge(39)", 0)
                .refuses(-1, "bridge(40)", "bridge(-1)");
    }

    private static void terms_arcIsBetweenTwoDifferentNodes() {
        nodes(2).refuses(-3, "arc(0, 0)", "arc(1, 1)").lay(0, 1, 1, 0).refuses(-3, "arc(0, 0)", "arc(1, 1)");
    }

    private static void terms_severalArcsMayBeBetweenTheSameTwo() {
        parallel(3).lay(1, 0).due("count(1)", 4).due("arcs(0, 1)", 4).due("count(5)", 1).due("bridge(3)", 0);
        parallel(40).due("count(1)", 40).due("arcs(1, 0)", 40);
    }

    private static void terms_arcThatIsNotThereIsInNoAnswer() {
        same(four().lay(0, 1).away(6), four(), "an ARC turned away or never laid", questions());
        same(path(14).lay(13, 0).away(13), path(14), "an ARC turned away or never laid", questions());
        same(parallel(15).away(14), parallel(14), "an ARC turned away or never laid", questions());
        same(mixed().lay(6, 7).away(8), mixed(), "an ARC turned away or never laid", questions());
    }

    private static void terms_allIsAsBeforeWhenAnArcIsTurnedBack() {
        for (int arc : new int[] {0, 13, 14, 31, 32, 39}) {
            same(full().away(arc).back(arc), full(), "ARC " + arc + " turned away and back or not", all());
        }
        same(mixed().back(6).away(6), mixed(), "ARC 6 turned back and away or not", all());
    }

    private static void terms_whatOnlyAsksChangesNothing() {
        for (Supplier<Run> maker : List.<Supplier<Run>>of(Run::new, EdgeTests::mixed, EdgeTests::full)) {
            Run asked = maker.get();
            asked.answers(questions());
            same(asked, maker.get(), "asked before or not", changes());
            Run pairs = maker.get();
            for (String name : OF_NODES) {
                for (int a = 0; a < 6 && !name.equals("arc"); a++) {
                    pairs.ask(call(name, a, 6 - a));
                    pairs.ask(call("together", a, a + 1));
                    pairs.ask(call("splits", a, 3));
                }
            }
            same(pairs, maker.get(), "asked before or not", changes());
        }
    }

    private static void terms_nodeIsInOnePartAndTwoArcPartWithItself() {
        nodes(14).due("part(13)", 13).due("twin(13)", 13).due("count(2)", 14).due("count(6)", 14);
    }

    private static void terms_ringOfAWayOfOneArc() {
        parallel(2).due("block(1)", 0).due("bridge(0)", 0).due("twin(1)", 0).due("count(3)", 0).due("count(5)", 1);
        parallel(1).due("block(0)", 0).due("bridge(0)", 1).due("twin(1)", 1).due("count(3)", 1).due("count(5)", 1);
    }

    private static void terms_wayComesToNoNodeTwice() {
        // two rings with one NODE in common are on no one RING
        nodes(5).lay(0, 1, 1, 2, 2, 0, 2, 3, 3, 4, 4, 2).due("block(3)", 3).due("block(2)", 0).due("count(5)", 2)
                .due("count(4)", 1).due("count(6)", 1).refuses(-3, "together(0, 3)");
    }

    private static void terms_bridgeNeedsNoOthersAndCutNodeDoes() {
        parallel(1).due("count(3)", 1).due("count(4)", 0);
        path(3).due("count(3)", 2).due("count(4)", 1);
    }

    private static void terms_neededIs0WithoutNodes() {
        new Run().due("count(7)", 0);
        full().due("clear()", 0).due("count(7)", 0);
        nodes(1).due("count(7)", 0);
    }

    private static void terms_neededMayBeBetweenTheSameTwo() {
        nodes(2).due("count(7)", 2).lay(0, 1).due("count(7)", 1).lay(0, 1).due("count(7)", 0);
    }

    private static void terms_neededOfMostNodes() {
        nodes(14).due("count(7)", 14);
        path(14).due("count(7)", 1);
        star(14).due("count(7)", 7);
        star(13).due("count(7)", 6).due("node()", 13).due("count(7)", 7);
        ring(14).due("count(7)", 0).away(13).due("count(7)", 1).away(6).due("count(7)", 2);
    }

    private static void terms_firstOrientationHasForthForTheLeastArc() {
        nodes(3).lay(1, 0, 1, 2, 2, 0).due("way(0)", 1).due("way(1)", 0).due("way(2)", 0);
        nodes(3).lay(1, 2, 1, 0, 2, 0).due("way(0)", 1).due("way(1)", 0).due("way(2)", 1);
    }

    private static void terms_splitHasTwoArcsOrMoreInEachSet() {
        parallel(3).splits(0, 3, 0, 3, 0);
        ring(3).splits(2, 3, 0, 3, 0);
        // the least BLOCK with a GOOD SPLIT
        nodes(3).lay(0, 1, 1, 2, 2, 0, 1, 0).splits(0, 4, 1, 2, 0).splits(1, 4, 1, 2, 1).splits(3, 4, 1, 2, 0)
                .due("together(0, 3)", 1).due("together(1, 2)", 1).due("together(3, 2)", 0);
    }

    private static void terms_splitHasJustTwoNodesOfBoth() {
        four().splits(5, 6, 0, 6, 0);
    }

    private static void terms_goodSplitIsOneOfTwoSets() {
        // at NODES 0 and 1 there are but two sets of ARCS to be split
        nodes(6).lay(0, 2, 0, 3, 1, 2, 1, 3, 2, 3, 0, 4, 0, 5, 1, 4, 1, 5, 4, 5).splits(4, 10, 1, 5, 0)
                .splits(9, 10, 1, 5, 5).due("together(0, 4)", 1).due("together(4, 5)", 0);
        // and with an ARC between them a third, of one ARC
        nodes(6).lay(0, 2, 0, 3, 1, 2, 1, 3, 2, 3, 0, 4, 0, 5, 1, 4, 1, 5, 4, 5, 0, 1).splits(4, 11, 2, 5, 0)
                .splits(9, 11, 2, 5, 5).splits(10, 11, 2, 1, 10).due("together(10, 0)", 0);
    }

    private static void terms_splitsThatCrossAreNotGood() {
        ring(4).splits(3, 4, 0, 4, 0).due("together(0, 2)", 1);
        parallel(4).splits(3, 4, 0, 4, 0).due("together(0, 3)", 1);
    }

    private static void terms_wornNodeHasArcsToTwoOthersAtMost() {
        nodes(1).due("worn()", 0);
        parallel(1).due("worn()", 0);
        ring(3).due("worn()", 0);
        four().due("worn()", 15).away(5).due("worn()", 0).back(5).due("worn()", 15);
        // many ARCS, but to two others
        four().nodes(4, 5).lay(4, 0, 4, 1, 4, 0, 4, 1).due("worn()", 15).lay(4, 2).due("worn()", 31);
    }

    private static void terms_wornNodeLeavesAnArcInItsPlace() {
        four().nodes(4, 6).lay(0, 4, 4, 5, 5, 1).away(0).due("worn()", 15).away(7).due("worn()", 0);
    }

    private static void terms_codesChangeNothing() {
        Run run = mixed();
        run.refuses(-1, "arc(0, 8)", "turn(8)", "part(8)", "bridge(6)", "falls(8)", "block(6)", "twin(8)");
        run.refuses(-1, "arcs(0, 8)", "side(0, 8)", "nodes(0, 8)", "between(0, 8)", "mends(0, 8)", "way(6)");
        run.refuses(-1, "together(0, 6)", "splits(6, 0)").refuses(-2, "count(9)", "splits(0, 4)");
        run.refuses(-3, "arc(0, 0)", "arcs(0, 0)", "side(0, 0)", "nodes(0, 1)", "between(0, 7)", "mends(0, 0)");
        run.refuses(-3, "way(0)", "together(0, 3)");
        full().refuses(-4, "node()", "arc(0, 1)", "together(0, 1)", "splits(0, 1)", "splits(0, 2)", "splits(0, 3)");
    }

    // ---- Promise 1: a new object ----

    private static void promise01_newObjectHasNothing() {
        new Run().counts(0, 0, 0, 0, 0, 0, 0, 0, 0).due("worn()", 0);
        new Run().refuses(-2, "count(-1)", "count(9)");
    }

    private static void promise01_newObjectKnowsNoNodeAndNoArc() {
        Run run = new Run();
        run.due(-1, "part(0)", "falls(0)", "twin(0)", "turn(0)", "bridge(0)", "block(0)", "way(0)", "arc(0, 0)");
        run.due(-1, "arc(0, 1)", "arcs(0, 1)", "side(0, 1)", "nodes(0, 1)", "between(0, 1)", "mends(0, 1)");
        run.due(-1, "together(0, 0)", "together(0, 1)", "splits(0, 0)", "splits(0, 4)");
    }

    private static void promise01_newObjectBeginsWithNumber0() {
        new Run().due("node()", 0).due("node()", 1).due("arc(0, 1)", 0);
    }

    private static void promise01_objectsHaveNothingInCommon() {
        Run one = full();
        Run other = mixed();
        Run empty = new Run();
        same(other, mixed(), "beside others or not", all());
        same(empty, new Run(), "beside others or not", all());
        same(one, full(), "beside others or not", all());
    }

    // ---- Promise 2: clear ----

    private static void promise02_clearOfANewObject() {
        same(new Run().due("clear()", 0), new Run(), "cleared or new", all());
        same(new Run().due("clear()", 0).due("clear()", 0), new Run(), "cleared twice or new", all());
    }

    private static void promise02_clearedIsAsNew() {
        same(nodes(14).due("clear()", 0), new Run(), "cleared or new", all());
        same(mixed().due("clear()", 0), new Run(), "cleared or new", all());
        same(full().due("clear()", 0), new Run(), "cleared or new", all());
        full().due("clear()", 0).counts(0, 0, 0, 0, 0, 0, 0, 0, 0).due("worn()", 0);
    }

    private static void promise02_clearGivesAllRoomAgain() {
        Run run = full().due(-4, "node()", "arc(0, 1)").due("clear()", 0).nodes(0, 14);
        run.layMany(40, 13, 0).due(-4, "node()", "arc(0, 1)").counts(14, 40, 13, 0, 0, 1, 13, 13, 0);
    }

    private static void promise02_clearForgetsWhatWasTurnedAway() {
        Run run = parallel(3).away(0, 2).due("clear()", 0).refuses(-1, "turn(0)", "turn(1)", "turn(2)").nodes(0, 2);
        run.refuses(-1, "turn(0)", "bridge(0)").lay(0, 1, 0, 1).due("count(1)", 2).refuses(-1, "turn(2)").away(0);
        run.due("bridge(1)", 1);
    }

    private static void promise02_clearForgetsWhatWasThere() {
        Run run = four().due("clear()", 0).nodes(0, 4).counts(4, 0, 4, 0, 0, 0, 4, 4, 0);
        run.lay(2, 3).counts(4, 1, 3, 1, 0, 1, 4, 3, 0).due("part(3)", 2).due("side(2, 0)", 12).refuses(-1, "turn(1)");
        same(full().due("clear()", 0).nodes(0, 4).lay(0, 1, 1, 2), nodes(4).lay(0, 1, 1, 2), "cleared or new", all());
    }

    // ---- Promise 3: node ----

    private static void promise03_lastNodeThatHasRoom() {
        nodes(13).due("count(0)", 13).due("node()", 13).due("count(0)", 14).due("part(13)", 13);
    }

    private static void promise03_firstNodeWithoutRoom() {
        nodes(14).refuses(-4, "node()").refuses(-4, "node()", "node()", "node()").due("count(0)", 14);
        full().refuses(-4, "node()").due("count(0)", 14);
        full().due("clear()", 0).due("node()", 0);
    }

    private static void promise03_fullOfArcsHasRoomForNodes() {
        parallel(40).due(-4, "arc(0, 1)").due("node()", 2).due("part(2)", 2).nodes(3, 14).due("node()", -4);
    }

    private static void promise03_newNodeIsAlone() {
        parallel(2).due("node()", 2).due("part(2)", 2).due("twin(2)", 2).due("falls(2)", 0)
                .counts(3, 2, 2, 0, 0, 1, 2, 2, 0);
    }

    // ---- Promise 4: arc ----

    private static void promise04_arcIsThereAtOnce() {
        nodes(14).due("arc(13, 0)", 0).due("count(1)", 1).due("bridge(0)", 1).due("part(13)", 0).due("turn(0)", 0);
    }

    private static void promise04_arcKnowsItsFirstNode() {
        nodes(2).lay(0, 1, 0, 1).due("way(0)", 1).due("way(1)", 0);
        nodes(2).lay(0, 1, 1, 0).due("way(0)", 1).due("way(1)", 1);
    }

    private static void promise04_unknownNode() {
        unknownNodes("arc");
    }

    private static void promise04_nodesAreOne() {
        nodes(1).refuses(-3, "arc(0, 0)");
        nodes(14).refuses(-3, "arc(0, 0)", "arc(7, 7)", "arc(13, 13)");
        mixed().refuses(-3, "arc(0, 0)", "arc(7, 7)");
    }

    private static void promise04_lastArcThatHasRoom() {
        parallel(39).due("arc(1, 0)", 39).due("count(1)", 40).due("bridge(39)", 0).due("way(39)", 1);
    }

    private static void promise04_firstArcWithoutRoom() {
        parallel(40).refuses(-4, "arc(0, 1)").refuses(-4, "arc(1, 0)", "arc(0, 1)").due("count(1)", 40);
        full().refuses(-4, "arc(0, 1)", "arc(13, 12)");
    }

    private static void promise04_arcTurnedAwayKeepsItsRoom() {
        parallel(40).away(39).refuses(-4, "arc(0, 1)").away(0, 17).refuses(-4, "arc(0, 1)").back(39);
        parallel(39).away(0).due("arc(0, 1)", 39).refuses(-4, "arc(0, 1)").due("count(1)", 39);
        nodes(2).lay(0, 1).away(0).lay(0, 1).due("count(1)", 1).refuses(-1, "bridge(0)").due("bridge(1)", 1);
    }

    private static void promise04_refusedArcTakesNoNumber() {
        afterRefusedArcs().due("arc(0, 1)", 0).due("arc(0, 0)", -3).due("arc(0, 5)", -1).due("arc(0, 1)", 1);
    }

    private static void promise04_unknownComesBeforeOne() {
        nodes(2).refuses(-1, "arc(2, 2)", "arc(-1, -1)", call("arc", MOST, MOST), call("arc", LEAST, LEAST));
        new Run().refuses(-1, "arc(0, 0)");
    }

    private static void promise04_unknownComesBeforeNoRoom() {
        parallel(40).refuses(-1, "arc(0, 2)", "arc(2, 0)", "arc(-1, 1)", "arc(2, 2)", "arc(-1, -1)");
    }

    private static void promise04_oneComesBeforeNoRoom() {
        parallel(40).refuses(-3, "arc(0, 0)", "arc(1, 1)");
        full().refuses(-3, "arc(13, 13)");
    }

    // ---- Promise 5: turn ----

    private static void promise05_turnedAwayAndBack() {
        parallel(1).due("turn(0)", 0).due("count(1)", 0).due("turn(0)", 1).due("count(1)", 1).due("turn(0)", 0)
                .due("turn(0)", 1).due("bridge(0)", 1);
    }

    private static void promise05_neverBeen() {
        unknownArc("turn");
        afterRefusedArcs().refuses(-1, "turn(0)").lay(0, 1).refuses(-1, "turn(1)").away(0).refuses(-1, "turn(1)");
        parallel(39).refuses(-1, "turn(39)").lay(0, 1).away(39).refuses(-1, "turn(40)");
    }

    private static void promise05_firstAndLastArc() {
        full().away(0, 39).due("count(1)", 38).back(39, 0).due("count(1)", 40);
    }

    private static void promise05_allArcsAwayAndBack() {
        int[] every = new int[40];
        for (int arc = 0; arc < 40; arc++) {
            every[arc] = arc;
        }
        full().away(every).counts(14, 0, 14, 0, 0, 0, 14, 14, 0).due("worn()", 0).refuses(-1, "bridge(39)");
        same(full().away(every).back(every), full(), "all turned away and back or not", questions());
    }

    private static void promise05_onlyThisArcTurns() {
        Run run = full().away(31);
        for (int arc = 0; arc < 40; arc++) {
            run.due(call("bridge", arc), arc == 31 ? -1 : 0);
        }
    }

    private static void promise05_turnChangesWhatIsAsked() {
        ring(3).away(1).counts(3, 2, 1, 2, 1, 2, 3, 1, 0).due("block(2)", 2).due("way(0)", -3)
                .back(1).counts(3, 3, 1, 0, 0, 1, 1, 0, 0).due("block(2)", 0).due("way(0)", 1);
    }

    // ---- Promise 6: count ----

    private static void promise06_outsideOfItsRange() {
        List<String> calls = new ArrayList<>();
        for (int what : ODD) {
            if (what < 0 || what > 8) {
                calls.add(call("count", what));
            }
        }
        refusesEach(Run::new, -2, calls);
        refusesEach(EdgeTests::mixed, -2, calls);
        refusesEach(EdgeTests::full, -2, calls);
        refusesEach(() -> full().due("clear()", 0), -2, calls);
    }

    private static void promise06_ofLittle() {
        new Run().counts(0, 0, 0, 0, 0, 0, 0, 0, 0);
        nodes(1).counts(1, 0, 1, 0, 0, 0, 1, 0, 0);
        nodes(2).counts(2, 0, 2, 0, 0, 0, 2, 2, 0);
        parallel(1).counts(2, 1, 1, 1, 0, 1, 2, 1, 0);
        parallel(2).counts(2, 2, 1, 0, 0, 1, 1, 0, 0);
        mixed().counts(8, 7, 3, 2, 2, 4, 5, 3, 0);
    }

    private static void promise06_ofMost() {
        nodes(14).counts(14, 0, 14, 0, 0, 0, 14, 14, 0);
        path(14).counts(14, 13, 1, 13, 12, 13, 14, 1, 0);
        star(14).counts(14, 13, 1, 13, 1, 13, 14, 7, 0);
        ring(14).counts(14, 14, 1, 0, 0, 1, 1, 0, 0);
        parallel(40).counts(2, 40, 1, 0, 0, 1, 1, 0, 0);
        full().counts(14, 40, 1, 0, 0, 1, 1, 0, 14);
    }

    private static void promise06_arcsThatAreThereAlone() {
        parallel(40).away(0, 39).due("count(1)", 38).back(0).due("count(1)", 39).due(-4, "arc(0, 1)")
                .due("count(1)", 39);
    }

    private static void promise06_neededWithoutNodesAndOfOne() {
        new Run().due("count(7)", 0).due("node()", 0).due("count(7)", 0).due("node()", 1).due("count(7)", 2)
                .due("clear()", 0).due("count(7)", 0);
    }

    private static void promise06_neededOfEvenAndOddEnds() {
        star(4).due("count(7)", 2).nodes(4, 5).due("count(7)", 3).lay(0, 4).due("count(7)", 2);
        mixed().due("count(7)", 3).back(6).due("count(7)", 3).lay(6, 7).due("count(7)", 2);
    }

    private static void promise06_neededWhenTwoPartsAreWhole() {
        nodes(6).lay(0, 1, 1, 2, 2, 0, 3, 4, 4, 5, 5, 3).counts(6, 6, 2, 0, 0, 2, 2, 2, 0);
    }

    // ---- Promise 7: part ----

    private static void promise07_unknownNode() {
        unknownNode("part");
    }

    private static void promise07_nodeAlone() {
        nodes(1).due("part(0)", 0);
        nodes(14).due("part(0)", 0).due("part(13)", 13);
        mixed().due("part(7)", 7);
    }

    private static void promise07_allInOne() {
        path(14).due("part(0)", 0).due("part(13)", 0).away(0).due("part(13)", 1).due("part(0)", 0).back(0)
                .due("part(13)", 0);
        nodes(14).lay(13, 12).due("part(13)", 12).due("part(12)", 12);
    }

    // ---- Promise 8: bridge ----

    private static void promise08_unknownArc() {
        unknownArc("bridge");
        afterRefusedArcs().refuses(-1, "bridge(0)");
    }

    private static void promise08_arcNotThere() {
        parallel(1).away(0).refuses(-1, "bridge(0)").back(0).due("bridge(0)", 1);
        mixed().refuses(-1, "bridge(6)").due("bridge(3)", 1).back(6).due("bridge(3)", 0).due("bridge(6)", 0);
    }

    private static void promise08_anotherBesideIt() {
        parallel(1).due("bridge(0)", 1).lay(1, 0).due("bridge(0)", 0).due("bridge(1)", 0).away(0).due("bridge(1)", 1);
    }

    private static void promise08_lastArc() {
        nodes(3).layMany(39, 0, 1).lay(1, 2).due("bridge(39)", 1).due("bridge(38)", 0).due("count(3)", 1);
        full().due("bridge(39)", 0);
    }

    // ---- Promise 9: falls ----

    private static void promise09_unknownNode() {
        unknownNode("falls");
    }

    private static void promise09_noOthers() {
        nodes(1).due("falls(0)", 0);
        mixed().due("falls(7)", 0);
        parallel(1).due("falls(0)", 1).away(0).due("falls(0)", 0).due("falls(1)", 0).back(0).due("falls(1)", 1);
    }

    private static void promise09_mostParts() {
        star(14).due("falls(0)", 13).due("falls(1)", 1).due("falls(13)", 1).away(12).due("falls(0)", 12)
                .due("falls(13)", 0);
    }

    private static void promise09_othersOfItsPartAlone() {
        mixed().due("falls(0)", 1).due("falls(2)", 2).due("falls(3)", 2).due("falls(4)", 1).due("falls(5)", 1);
        ring(14).due("falls(13)", 1);
    }

    // ---- Promise 10: block ----

    private static void promise10_unknownArc() {
        unknownArc("block");
        afterRefusedArcs().refuses(-1, "block(0)");
    }

    private static void promise10_arcNotThere() {
        mixed().refuses(-1, "block(6)").due("block(5)", 4).due("block(3)", 3).back(6).due("block(6)", 0)
                .due("block(5)", 0).due("block(3)", 0);
        parallel(40).due("block(39)", 0).away(0).refuses(-1, "block(0)").due("block(39)", 1).due("block(1)", 1);
    }

    private static void promise10_arcAlone() {
        path(14).due("block(0)", 0).due("block(12)", 12);
        nodes(3).layMany(39, 0, 1).lay(1, 2).due("block(39)", 39).due("block(38)", 0);
    }

    private static void promise10_mostArcs() {
        full().due("block(0)", 0).due("block(39)", 0);
        parallel(40).due("block(39)", 0);
    }

    // ---- Promise 11: twin ----

    private static void promise11_unknownNode() {
        unknownNode("twin");
    }

    private static void promise11_nodeAlone() {
        nodes(1).due("twin(0)", 0);
        path(14).due("twin(0)", 0).due("twin(6)", 6).due("twin(13)", 13);
    }

    private static void promise11_allInOne() {
        ring(14).due("twin(13)", 0).away(5).due("twin(13)", 13).due("twin(0)", 0).back(5).due("twin(13)", 0);
    }

    private static void promise11_noLossOfOneArcParts() {
        parallel(1).due("twin(1)", 1).lay(1, 0).due("twin(1)", 0);
        mixed().due("twin(2)", 0).due("twin(4)", 3).due("twin(6)", 6).due("twin(7)", 7).back(6).due("twin(4)", 0);
    }

    // ---- Promise 12: arcs ----

    private static void promise12_unknownNode() {
        unknownNodes("arcs");
    }

    private static void promise12_nodesAreOne() {
        oneNode("arcs");
    }

    private static void promise12_unknownComesBeforeOne() {
        mixed().refuses(-1, "arcs(8, 8)", "arcs(-1, -1)", call("arcs", MOST, MOST), call("arcs", LEAST, LEAST));
    }

    private static void promise12_notInOnePart() {
        nodes(14).due("arcs(0, 13)", 0).due("arcs(13, 0)", 0);
        mixed().due("arcs(0, 7)", 0).due("arcs(5, 4)", 0);
        parallel(1).due("arcs(0, 1)", 1).away(0).due("arcs(0, 1)", 0).back(0).due("arcs(1, 0)", 1);
    }

    private static void promise12_mostArcs() {
        parallel(40).due("arcs(0, 1)", 40).due("arcs(1, 0)", 40).away(39).due("arcs(0, 1)", 39);
        nodes(14).layMany(40, 12, 13).due("arcs(13, 12)", 40).due("arcs(0, 13)", 0);
        ring(14).due("arcs(0, 13)", 2).due("arcs(13, 0)", 2);
    }

    // ---- Promise 13: side ----

    private static void promise13_unknownNode() {
        unknownNodes("side");
    }

    private static void promise13_nodesAreOne() {
        oneNode("side");
    }

    private static void promise13_unknownComesBeforeOne() {
        mixed().refuses(-1, "side(8, 8)", "side(-1, -1)", call("side", MOST, MOST), call("side", LEAST, LEAST));
    }

    private static void promise13_notInOnePart() {
        nodes(14).due("side(0, 13)", 1).due("side(13, 0)", 8192);
        mixed().due("side(7, 0)", 128).due("side(0, 7)", 31).due("side(5, 0)", 96).due("side(4, 5)", 31);
    }

    private static void promise13_fewestNodesOfAsFewArcs() {
        path(14).due("side(0, 13)", 1).due("side(13, 0)", 8192).due("side(6, 7)", 127).due("side(7, 6)", 16256);
        ring(14).due("side(0, 7)", 1).due("side(13, 0)", 8192);
    }

    private static void promise13_fewestArcsComeBeforeFewestNodes() {
        nodes(3).lay(0, 1, 0, 1, 1, 2).due("side(0, 2)", 3).due("side(2, 0)", 4).due("side(0, 1)", 1)
                .due("side(1, 0)", 6);
    }

    private static void promise13_allNodesButOne() {
        Run run = nodes(14);
        for (int node = 0; node < 12; node++) {
            run.lay(node, node + 1, node + 1, node);
        }
        run.lay(12, 13).due("side(0, 13)", 8191).due("side(13, 0)", 8192);
        parallel(40).due("side(0, 1)", 1).due("side(1, 0)", 2);
    }

    // ---- Promise 14: nodes ----

    private static void promise14_unknownNode() {
        unknownNodes("nodes");
    }

    private static void promise14_nodesAreOne() {
        oneNode("nodes");
    }

    private static void promise14_arcBetweenThem() {
        parallel(1).refuses(-3, "nodes(0, 1)", "nodes(1, 0)");
        mixed().refuses(-3, "nodes(2, 3)", "nodes(3, 2)", "nodes(5, 6)");
        full().refuses(-3, "nodes(0, 1)", "nodes(13, 0)", "nodes(11, 0)");
    }

    private static void promise14_arcBetweenThemTurnedAway() {
        four().refuses(-3, "nodes(0, 1)").away(0).due("nodes(0, 1)", 2).back(0).refuses(-3, "nodes(0, 1)");
        parallel(2).away(0).refuses(-3, "nodes(0, 1)").away(1).due("nodes(0, 1)", 0).back(0)
                .refuses(-3, "nodes(1, 0)");
    }

    private static void promise14_unknownComesBeforeOne() {
        mixed().refuses(-1, "nodes(8, 8)", "nodes(-1, -1)", call("nodes", MOST, MOST), call("nodes", LEAST, LEAST));
    }

    private static void promise14_notInOnePart() {
        nodes(14).due("nodes(0, 13)", 0).due("nodes(13, 0)", 0);
        mixed().due("nodes(0, 7)", 0).due("nodes(6, 4)", 0);
    }

    private static void promise14_mostNodes() {
        Run run = rows(12).due("nodes(0, 1)", 12).due("nodes(1, 0)", 12).due("nodes(2, 13)", 2);
        run.lay(1, 0).refuses(-3, "nodes(0, 1)").away(24).due("nodes(0, 1)", 12).away(23).due("nodes(0, 1)", 11);
        path(14).due("nodes(0, 13)", 1).due("nodes(0, 2)", 1);
    }

    // ---- Promise 15: between ----

    private static void promise15_unknownNode() {
        unknownNodes("between");
    }

    private static void promise15_nodesAreOne() {
        oneNode("between");
    }

    private static void promise15_notInOnePart() {
        nodes(14).refuses(-3, "between(0, 13)", "between(13, 0)");
        mixed().refuses(-3, "between(0, 7)", "between(7, 0)", "between(4, 5)").away(3).refuses(-3, "between(2, 3)")
                .back(3).due("between(2, 3)", 0);
    }

    private static void promise15_unknownComesBeforeOneAndParts() {
        mixed().refuses(-1, "between(8, 8)", "between(-1, -1)", "between(7, 8)", "between(8, 7)",
                call("between", MOST, MOST), call("between", LEAST, LEAST));
    }

    private static void promise15_noneAndMost() {
        parallel(1).due("between(0, 1)", 0);
        path(14).due("between(0, 13)", 12).due("between(13, 0)", 12).due("between(1, 12)", 10).due("between(6, 7)", 0);
        ring(14).due("between(0, 13)", 0).due("between(0, 7)", 0).away(0).due("between(0, 1)", 12);
    }

    // ---- Promise 16: mends ----

    private static void promise16_unknownNode() {
        unknownNodes("mends");
    }

    private static void promise16_nodesAreOne() {
        oneNode("mends");
    }

    private static void promise16_unknownComesBeforeOne() {
        mixed().refuses(-1, "mends(8, 8)", "mends(-1, -1)", call("mends", MOST, MOST), call("mends", LEAST, LEAST));
    }

    private static void promise16_nothingIsNeeded() {
        parallel(2).due("mends(0, 1)", 0);
        ring(14).due("mends(0, 7)", 0).due("mends(13, 0)", 0);
        full().due("mends(0, 13)", 0).due("mends(6, 12)", 0);
    }

    private static void promise16_betweenTheSameTwo() {
        nodes(2).due("mends(0, 1)", 1).lay(0, 1).due("mends(1, 0)", 1).lay(0, 1).due("mends(0, 1)", 0);
    }

    private static void promise16_lessAndNotLess() {
        star(5).due("mends(1, 2)", 1).due("mends(0, 1)", 0).due("mends(4, 3)", 1);
        star(4).due("mends(1, 2)", 1).due("mends(0, 1)", 1);
        path(14).due("mends(0, 13)", 1).due("mends(13, 0)", 1).due("mends(0, 12)", 0).due("mends(6, 7)", 0);
        nodes(14).due("mends(0, 13)", 1);
    }

    private static void promise16_noRoomForTheArc() {
        Run run = parallel(40).due("node()", 2).due(-4, "arc(0, 2)").due("mends(0, 2)", 1).due("mends(0, 1)", 0);
        run.due("count(1)", 40).due("part(2)", 2).due("count(7)", 2);
    }

    private static void promise16_theArcDoesNotStay() {
        Run run = nodes(2).due("mends(0, 1)", 1).due("mends(0, 1)", 1).counts(2, 0, 2, 0, 0, 0, 2, 2, 0);
        same(run, nodes(2), "mends asked or not", changes());
    }

    // ---- Promise 17: way ----

    private static void promise17_unknownArc() {
        unknownArc("way");
        afterRefusedArcs().refuses(-1, "way(0)");
    }

    private static void promise17_partHasABridge() {
        parallel(1).refuses(-3, "way(0)");
        mixed().refuses(-3, "way(0)", "way(3)", "way(5)", "way(7)");
        ring(14).due("way(13)", 1).away(0).refuses(-3, "way(1)", "way(13)").back(0).due("way(13)", 1);
        nodes(3).layMany(39, 0, 1).due("way(0)", 1).lay(1, 2).refuses(-3, "way(0)", "way(38)", "way(39)");
    }

    private static void promise17_anotherPartHasABridge() {
        mixed().away(3).due("way(0)", 1).due("way(4)", 1).due("way(5)", 0).refuses(-3, "way(7)");
    }

    private static void promise17_notThereComesBeforeBridge() {
        mixed().refuses(-1, "way(6)", "way(8)", "way(-1)");
        parallel(2).away(1).refuses(-1, "way(1)").refuses(-3, "way(0)");
    }

    private static void promise17_turnedAwayAndBack() {
        mixed().back(6).due(1, "way(0)", "way(1)", "way(2)", "way(3)", "way(4)", "way(5)", "way(6)");
        parallel(3).due("way(1)", 1).due("way(2)", 0).away(2).due("way(1)", 0).refuses(-1, "way(2)").back(2)
                .due("way(1)", 1);
    }

    private static void promise17_leastAndMostArcs() {
        parallel(2).due("way(0)", 1).due("way(1)", 0);
        parallel(40).due("way(0)", 1).due("way(38)", 1).due("way(39)", 0);
        nodes(2).lay(0, 1, 1, 0).due("way(0)", 1).due("way(1)", 1);
    }

    // ---- Promise 18: together ----

    private static void promise18_unknownArc() {
        refusesEach(Run::new, -1, calls("together", unknown(0), 0));
        refusesEach(EdgeTests::mixed, -1, calls("together", unknown(8), 7));
        refusesEach(EdgeTests::full, -1, calls("together", unknown(40), 39));
        refusesEach(() -> full().due("clear()", 0), -1, calls("together", unknown(0), 0));
        afterRefusedArcs().refuses(-1, "together(0, 0)");
    }

    private static void promise18_arcNotThere() {
        parallel(3).away(1).refuses(-1, "together(0, 1)", "together(1, 0)", "together(1, 1)").back(1)
                .due("together(0, 1)", 1);
    }

    private static void promise18_notOfOneBlock() {
        mixed().refuses(-3, "together(0, 3)", "together(3, 0)", "together(0, 4)", "together(7, 5)");
        path(14).refuses(-3, "together(0, 1)", "together(12, 0)");
    }

    private static void promise18_blockOf14And15Arcs() {
        parallel(14).due("together(0, 13)", 1).lay(0, 1).refuses(-4, "together(0, 13)", "together(14, 0)").away(3)
                .due("together(0, 14)", 1).back(3).refuses(-4, "together(0, 14)");
        ring(14).due("together(0, 7)", 1).lay(0, 7).refuses(-4, "together(0, 7)").away(14).due("together(0, 7)", 1);
        rows(7).due("together(12, 13)", 1).due("together(0, 13)", 0).lay(0, 1)
                .refuses(-4, "together(12, 13)", "together(0, 13)");
        parallel(40).refuses(-4, "together(0, 39)");
    }

    private static void promise18_moreArcsButInTwoBlocks() {
        nodes(3).layMany(14, 0, 1).layMany(14, 1, 2).due("together(0, 13)", 1).due("together(27, 14)", 1)
                .refuses(-3, "together(13, 14)");
    }

    private static void promise18_unknownComesBeforeNotOfOneBlock() {
        mixed().refuses(-1, "together(6, 4)", "together(4, 6)", "together(0, 8)", "together(-1, 3)", "together(6, 6)");
    }

    private static void promise18_unknownComesBeforeNoRoom() {
        parallel(16).away(15).refuses(-1, "together(0, 15)", "together(15, 0)", "together(0, 16)", "together(-1, 0)");
    }

    private static void promise18_notOfOneBlockComesBeforeNoRoom() {
        nodes(3).layMany(15, 0, 1).lay(1, 2).refuses(-3, "together(0, 15)", "together(15, 0)")
                .due("together(15, 15)", 1);
        nodes(3).layMany(15, 0, 1).layMany(15, 1, 2).refuses(-3, "together(0, 15)", "together(29, 14)");
    }

    private static void promise18_oneArc() {
        parallel(1).due("together(0, 0)", 1);
        rows(7).due("together(13, 13)", 1);
        parallel(15).refuses(-4, "together(7, 7)");
    }

    // ---- Promise 19: splits ----

    private static void promise19_unknownArc() {
        for (int what = 0; what < 4; what++) {
            List<String> ofNone = new ArrayList<>();
            List<String> ofMixed = new ArrayList<>();
            List<String> ofFull = new ArrayList<>();
            for (int arc : ODD) {
                ofNone.add(call("splits", arc, what));
            }
            for (int arc : unknown(8)) {
                ofMixed.add(call("splits", arc, what));
            }
            for (int arc : unknown(40)) {
                ofFull.add(call("splits", arc, what));
            }
            refusesEach(Run::new, -1, ofNone);
            refusesEach(() -> full().due("clear()", 0), -1, ofNone);
            refusesEach(EdgeTests::mixed, -1, ofMixed);
            refusesEach(EdgeTests::full, -1, ofFull);
        }
        afterRefusedArcs().refuses(-1, "splits(0, 0)", "splits(0, 1)");
    }

    private static void promise19_arcNotThere() {
        parallel(2).splits(1, 2, 0, 2, 0).away(1).refuses(-1, "splits(1, 0)", "splits(1, 1)", "splits(1, 2)")
                .refuses(-1, "splits(1, 3)").splits(0, 1, 0, 1, 0).back(1).splits(1, 2, 0, 2, 0);
        parallel(3).away(0).splits(2, 2, 0, 2, 1);
    }

    private static void promise19_outsideOfItsRange() {
        List<String> calls = new ArrayList<>();
        for (int what : ODD) {
            if (what < 0 || what > 3) {
                calls.add(call("splits", 0, what));
            }
        }
        refusesEach(EdgeTests::mixed, -2, calls);
        refusesEach(() -> parallel(1), -2, calls);
        refusesEach(EdgeTests::full, -2, calls);
    }

    private static void promise19_blockOf14And15Arcs() {
        parallel(14).splits(13, 14, 0, 14, 0).lay(0, 1).splits(13, 15, -4, -4, -4).away(0).splits(13, 14, 0, 14, 1)
                .back(0).refuses(-4, "splits(14, 1)", "splits(14, 2)", "splits(14, 3)").due("splits(14, 0)", 15);
        ring(14).splits(13, 14, 0, 14, 0).lay(0, 7).splits(14, 15, -4, -4, -4);
        rows(7).splits(13, 14, 7, 2, 12).lay(0, 1).splits(13, 15, -4, -4, -4).away(0).splits(13, 13, 6, 2, 12)
                .splits(14, 13, 6, 1, 14).splits(1, 1, 0, 1, 1);
    }

    private static void promise19_leastAndMostArcs() {
        parallel(1).splits(0, 1, 0, 1, 0);
        parallel(40).splits(39, 40, -4, -4, -4);
        full().splits(0, 40, -4, -4, -4);
        mixed().splits(3, 1, 0, 1, 3).splits(2, 3, 0, 3, 0).splits(5, 2, 0, 2, 4).splits(7, 1, 0, 1, 7);
    }

    private static void promise19_moreArcsButInTwoBlocks() {
        nodes(3).layMany(14, 0, 1).layMany(15, 1, 2).splits(0, 14, 0, 14, 0).splits(14, 15, -4, -4, -4).away(28)
                .splits(14, 14, 0, 14, 14);
    }

    private static void promise19_unknownComesBeforeOutside() {
        new Run().refuses(-1, "splits(0, 4)", "splits(0, -1)", "splits(-1, -1)");
        mixed().refuses(-1, "splits(8, 4)", "splits(6, 4)", "splits(6, -1)", call("splits", MOST, MOST))
                .refuses(-1, call("splits", LEAST, LEAST), call("splits", -1, MOST));
    }

    private static void promise19_unknownComesBeforeNoRoom() {
        parallel(16).away(15).refuses(-1, "splits(15, 1)", "splits(15, 2)", "splits(15, 3)", "splits(15, 4)")
                .refuses(-1, "splits(16, 1)", "splits(-1, 3)").refuses(-4, "splits(14, 1)");
    }

    private static void promise19_outsideComesBeforeNoRoom() {
        parallel(15).refuses(-2, "splits(0, 4)", "splits(0, -1)", call("splits", 0, MOST), call("splits", 0, LEAST));
        parallel(40).refuses(-2, "splits(39, 4)", "splits(39, -1)");
    }

    // ---- Promise 20: worn ----

    private static void promise20_nothingIsLeft() {
        new Run().due("worn()", 0).due("count(8)", 0);
        nodes(14).due("worn()", 0);
        path(14).due("worn()", 0);
        ring(14).due("worn()", 0);
        parallel(40).due("worn()", 0);
        rows(12).due("worn()", 0);
        mixed().due("worn()", 0).back(6).due("worn()", 0);
        full().due("clear()", 0).due("worn()", 0);
    }

    private static void promise20_allIsLeft() {
        four().due("worn()", 15).due("count(8)", 4);
        full().due("worn()", 16383).due("count(8)", 14);
    }

    private static void promise20_lastNodesAreLeft() {
        nodes(14).lay(10, 11, 10, 12, 10, 13, 11, 12, 11, 13, 12, 13, 0, 10, 1, 13).due("worn()", 15360)
                .due("count(8)", 4);
    }

    private static void promise20_arcTurnedAwayAndBack() {
        // each NODE has ARCS to three others; without ARC 14 NODES 0 and 7 have two
        Run run = ring(14);
        for (int node = 0; node < 7; node++) {
            run.lay(node, node + 7);
        }
        run.due("worn()", 16383).away(14).due("worn()", 16254).due("count(8)", 12).back(14).due("worn()", 16383);
    }

    private static void promise20_nothingGoesInTruth() {
        Run run = ring(14).due("worn()", 0).counts(14, 14, 1, 0, 0, 1, 1, 0, 0);
        same(run, ring(14), "worn asked or not", changes());
    }

    // ---- all tests ----

    private static boolean isTest(Method method) {
        boolean named = method.getName().startsWith("terms_") || method.getName().startsWith("promise");
        return named && method.getParameterCount() == 0;
    }

    private static void everyPromiseHasATest(Map<String, Method> tests) {
        for (int promise = 1; promise <= 20; promise++) {
            String start = String.format("promise%02d_", promise);
            if (tests.keySet().stream().noneMatch(name -> name.startsWith(start))) {
                fault("no test " + start);
            }
        }
    }

    public static void main(String[] args) throws IllegalAccessException, InvocationTargetException {
        Map<String, Method> tests = new TreeMap<>();
        for (Method method : EdgeTests.class.getDeclaredMethods()) {
            if (isTest(method)) {
                tests.put(method.getName(), method);
            }
        }
        everyPromiseHasATest(tests);
        for (Method method : tests.values()) {
            test = method.getName();
            method.invoke(null);
        }
        System.out.println(wrong == 0 ? tests.size() + " tests, all answers are as due" : wrong + " faults");
        if (wrong != 0) {
            System.exit(1);
        }
    }
}
