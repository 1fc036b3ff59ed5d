import java.util.ArrayList;
import java.util.List;
import java.util.TreeMap;
import java.util.TreeSet;

/**
 * Long runs of calls of all kinds, up to the 512th, in which ARCS come, are turned away and turned back between the
 * questions: on one object alone, on several by turns, and behind clear(). What is due comes from Plain, which
 * tries the document's words out on what is THERE and remembers nothing else.
 */
public final class LongRunTests {
    private static final int MOST_CALLS = 512;
    /** From this call on a run asks all kinds of calls one after the other. */
    private static final int LAST_CALLS = MOST_CALLS - 76;
    private static final int[] ODD = {
        Integer.MIN_VALUE, -64, -32, -4, -3, -2, -1, 9, 13, 14, 15, 32, 39, 40, 41, 64, 65536, Integer.MAX_VALUE};
    private static final String[] KINDS = {
        "node", "arc", "turn", "count", "part", "bridge", "falls", "block", "twin", "arcs", "side", "nodes", "between",
        "mends", "way", "together", "splits", "worn"};
    private static final List<String> CHANGES = List.of("clear", "node", "arc", "turn");
    private static final int MOODS = 7;
    private static final int OFTEN_CLEAR = 5;
    private static final int IN_CROWDS = 6;
    private static final int BESIDE_OTHERS = 3;

    /** What must have been due among the last calls of some run, or the runs do not show what they are made for. */
    private static final String[] MUST_BE_DUE = {
        "node more", "node -4", "arc more", "arc -1", "arc -3", "arc -4", "turn 0", "turn 1", "turn -1", "count 0",
        "count 1", "count more", "count -2", "part 0", "part more", "part -1", "bridge 0", "bridge 1",
        "bridge -1", "falls 0", "falls 1", "falls more", "falls -1", "block 0", "block 1", "block more", "block -1",
        "twin 0", "twin more", "twin -1", "arcs 0", "arcs 1", "arcs more", "arcs -1", "arcs -3", "side 1", "side more",
        "side -1", "side -3", "nodes 0", "nodes 1", "nodes more", "nodes -1", "nodes -3", "between 0", "between 1",
        "between more", "between -1", "between -3", "mends 0", "mends 1", "mends -1", "mends -3", "way 0", "way 1",
        "way -1", "way -3", "together 0", "together 1", "together -1", "together -3", "together -4", "splits 0",
        "splits 1", "splits more", "splits -1", "splits -2", "splits -4", "worn 0", "worn more"};

    private static int wrong = 0;
    private static long seed = 20261116L;

    private static int dice(int sides) {
        seed = seed * 6364136223846793005L + 1442695040888963407L;
        return (int) ((seed >>> 33) % sides);
    }

    private static void fault(String text) {
        wrong++;
        if (wrong < 40) {
            System.out.println(text);
        }
    }

    private record Step(Call call, int due) {
    }

    // ---- the runs ----

    /**
     * Chooses calls by chance, around as many NODES and ARCS as its mood wants. Behind a change the question that
     * came before it often comes again.
     */
    private static final class Chooser {
        private final Plain plain = new Plain();
        private final List<Call> planned = new ArrayList<>();
        private final int mood;
        private int wantNodes;
        private int moreArcs;
        private Call question = new Call("worn", 0, 0);
        private boolean justChanged = false;

        Chooser(int mood) {
            this.mood = mood;
            choosePlan(mood);
        }

        private void choosePlan(int now) {
            int[][] plans = {{4, 2}, {13, -1}, {12, 23}, {8, 1}, {7, 2}, {6, 0}, {10, 8}};
            wantNodes = plans[now][0] + dice(3);
            moreArcs = plans[now][1] + dice(4);
        }

        List<Step> run(String lastKind) {
            List<Step> steps = new ArrayList<>();
            for (int i = 0; i < MOST_CALLS; i++) {
                Call call = at(i, lastKind);
                steps.add(new Step(call, plain.answer(call)));
                justChanged = CHANGES.contains(call.kind());
                question = justChanged ? question : call;
            }
            return steps;
        }

        private Call at(int place, String lastKind) {
            if (place == MOST_CALLS - 1) {
                return lastOf(lastKind);
            }
            if (mood == OFTEN_CLEAR && place == LAST_CALLS - 50) {
                return clearing();
            }
            if (justChanged && dice(2) == 0) {
                return question;
            }
            return place >= LAST_CALLS && dice(3) > 0 ? ofKind(KINDS[place % KINDS.length]) : next();
        }

        /** If there is one, a call that is answered by no code. */
        private Call lastOf(String kind) {
            Call call = ofKind(kind);
            for (int i = 0; i < 60 && mood > 0 && new Plain(plain).answer(call) < 0; i++) {
                call = ofKind(kind);
            }
            return call;
        }

        private Call next() {
            if (!planned.isEmpty() && dice(3) > 0) {
                return planned.remove(0);
            }
            if (dice(mood == OFTEN_CLEAR ? 50 : 300) == 0) {
                return clearing();
            }
            boolean poor = plain.n < wantNodes || Long.bitCount(plain.there) < plain.n + moreArcs - 2;
            if (planned.isEmpty() && dice(10) < (poor ? 8 : 3)) {
                planChange();
                return planned.remove(0);
            }
            String kind = KINDS[dice(KINDS.length)];
            boolean fills = kind.equals("node") || kind.equals("arc");
            return ofKind(fills && dice(4) > 0 ? "count" : kind);
        }

        private Call clearing() {
            planned.clear();
            choosePlan(dice(MOODS));
            return new Call("clear", 0, 0);
        }

        private void planChange() {
            int missing = Math.min(40, plain.n + moreArcs) - Long.bitCount(plain.there);
            boolean someAway = plain.made > Long.bitCount(plain.there);
            if (plain.n < 2 || plain.n < wantNodes && dice(3) == 0) {
                planNode();
            } else if (missing + dice(5) - 2 < 0) {
                planned.add(new Call("turn", someFreeArc(), 0));
            } else if (someAway && (plain.made == 40 || dice(2) == 0)) {
                planned.add(new Call("turn", someAwayArc(), 0));
            } else {
                planned.add(someNewArc());
            }
        }

        /** A NODE that comes alone, or into an ARC that is THERE, or beside one. */
        private void planNode() {
            planned.add(new Call("node", 0, 0));
            if (plain.there != 0 && mood >= BESIDE_OTHERS && mood != IN_CROWDS && dice(4) > 0) {
                int arc = someArc();
                boolean round = dice(2) == 0;
                planned.add(new Call("arc", round ? plain.first[arc] : plain.n, round ? plain.n : plain.first[arc]));
                planned.add(new Call("arc", plain.n, plain.second[arc]));
                if (dice(4) > 0) {
                    planned.add(new Call("turn", arc, 0));
                }
            }
        }

        /** Beside another one, or anywhere, where it mends something more often than not. */
        private Call someNewArc() {
            if (plain.there != 0 && mood == BESIDE_OTHERS && dice(2) == 0) {
                int arc = someArc();
                return new Call("arc", plain.second[arc], plain.first[arc]);
            }
            if (mood == IN_CROWDS && dice(12) > 0) {
                return withinCrowd();
            }
            Call found = null;
            for (int i = 0; i < 8 && (found == null || !mends(found.a(), found.b()) && dice(6) > 0); i++) {
                int a = dice(plain.n);
                found = new Call("arc", a, (a + 1 + dice(plain.n - 1)) % plain.n);
            }
            return found;
        }

        /** Between two even NODES or two odd ones. */
        private Call withinCrowd() {
            int a = dice(plain.n);
            int b = (a + 1 + dice(plain.n - 1)) % plain.n;
            return new Call("arc", a, (a + b) % 2 == 0 || b == 0 || b - 1 == a ? b : b - 1);
        }

        private boolean mends(int a, int b) {
            return plain.answer(new Call("mends", a, b)) == 1;
        }

        /** One whose LOSS makes no more ARCS NEEDED, as else there would seldom be a PART without a BRIDGE. */
        private int someFreeArc() {
            int arc = someArc();
            for (int i = 0; i < 8 && breaks(arc) && dice(6) > 0; i++) {
                arc = someArc();
            }
            return arc;
        }

        private boolean breaks(int arc) {
            Plain then = new Plain(plain);
            Call needed = new Call("count", 7, 0);
            then.answer(new Call("turn", arc, 0));
            return then.answer(needed) > plain.answer(needed);
        }

        private int someAwayArc() {
            int arc = dice(plain.made);
            for (int i = 0; i < 80 && (plain.isThere(arc) || !mends(plain.first[arc], plain.second[arc]) && i < 40); i++) {
                arc = (arc + 1) % plain.made;
            }
            return arc;
        }

        /** One that is THERE, if there is one. */
        private int someArc() {
            int arc = plain.made == 0 ? 0 : dice(plain.made);
            for (int i = 0; i < plain.made && !plain.isThere(arc); i++) {
                arc = (arc + 1) % plain.made;
            }
            return arc;
        }

        private Call ofKind(String kind) {
            switch (kind) {
                case "node":
                case "worn":
                    return new Call(kind, 0, 0);
                case "count":
                    return new Call(kind, oddOr(dice(9)), 0);
                case "turn":
                    return new Call(kind, oddOr(dice(2) == 0 ? someFreeArc() : dice(plain.made + 1)), 0);
                case "part":
                case "falls":
                case "twin":
                    return new Call(kind, oddOr(someNode()), 0);
                case "bridge":
                case "block":
                case "way":
                    return new Call(kind, askedArc(), 0);
                case "together":
                    return ofTwoArcs();
                case "splits":
                    return new Call(kind, askedArc(), oddOr(dice(4)));
                default:
                    return new Call(kind, oddOr(someNode()), oddOr(someNode()));
            }
        }

        /** Now and then the one that would come next. */
        private int someNode() {
            return plain.n == 0 || dice(16) == 0 ? plain.n : dice(plain.n);
        }

        private Call ofTwoArcs() {
            int e = askedArc();
            long block = plain.isThere(e) ? plain.block(e) : 0;
            int f = askedArc();
            for (int i = 0; i < 40 && block != 0 && dice(6) > 0 && (block >> f & 1) == 0; i++) {
                f = someArc();
            }
            return new Call("together", e, f);
        }

        private int askedArc() {
            return oddOr(dice(6) == 0 ? dice(plain.made + 1) : someArc());
        }

        private static int oddOr(int number) {
            return dice(20) == 0 ? ODD[dice(ODD.length)] : number;
        }
    }

    private static List<List<Step>> chooseRuns() {
        List<List<Step>> runs = new ArrayList<>();
        for (int mood = 0; mood < MOODS; mood++) {
            for (String lastKind : KINDS) {
                runs.add(chooseRun(mood, lastKind));
            }
        }
        return runs;
    }

    /** Most runs should end with an answer that is no code. */
    private static List<Step> chooseRun(int mood, String lastKind) {
        List<Step> run = new Chooser(mood).run(lastKind);
        for (int i = 0; i < 8 && mood > 0 && run.get(MOST_CALLS - 1).due() < 0; i++) {
            run = new Chooser(mood).run(lastKind);
        }
        return run;
    }

    private static void lookWhatIsDue(List<List<Step>> runs) {
        TreeSet<String> due = new TreeSet<>();
        TreeMap<String, Integer> lastOf = new TreeMap<>();
        for (List<Step> run : runs) {
            for (Step step : run.subList(LAST_CALLS, MOST_CALLS)) {
                due.add(step.call().kind() + " " + (step.due() > 1 ? "more" : "" + step.due()));
            }
            lastOf.merge(run.get(MOST_CALLS - 1).call().kind(), run.get(MOST_CALLS - 1).due() >= 0 ? 1 : 0, Integer::sum);
        }
        for (String must : MUST_BE_DUE) {
            if (!due.contains(must)) {
                fault("no run has among its last calls: " + must);
            }
        }
        for (String kind : KINDS) {
            if (lastOf.getOrDefault(kind, 0) < 2) {
                fault("no two runs end with an answer of " + kind + " that is no code");
            }
        }
    }

    /** An object that is given the calls of a run one by one. */
    private static final class Walk {
        private final CutPoints x = new CutPoints();
        private final String name;
        private final List<Step> steps;
        private int given = 0;
        private boolean right = true;

        Walk(String name, List<Step> steps) {
            this.name = name;
            this.steps = steps;
        }

        boolean isOver() {
            return given >= steps.size();
        }

        void go(int most) {
            for (int i = 0; i < most && !isOver(); i++) {
                Step step = steps.get(given);
                int got = step.call().on(x);
                given++;
                if (got != step.due() && right) {
                    right = false;
                    fault(name + ", call " + given + ": " + step.call() + " answered " + got + ", due is " + step.due()
                            + " with " + asItStands());
                }
            }
        }

        private Plain asItStands() {
            Plain plain = new Plain();
            for (Step step : steps.subList(0, given - 1)) {
                if (CHANGES.contains(step.call().kind())) {
                    plain.answer(step.call());
                }
            }
            return plain;
        }
    }

    private static void eachAlone(List<List<Step>> runs) {
        for (int i = 0; i < runs.size(); i++) {
            new Walk("run " + i + " alone", runs.get(i)).go(MOST_CALLS);
        }
    }

    /** Two objects get their calls in pieces of one up to three, one after the other. */
    private static void twoByTurns(List<List<Step>> runs) {
        for (int i = 0; i < runs.size(); i++) {
            int j = (i * 7 + 5) % runs.size();
            Walk one = new Walk("run " + i + " by turns with run " + j, runs.get(i));
            Walk other = new Walk("run " + j + " by turns with run " + i, runs.get(j));
            while (!one.isOver() || !other.isOver()) {
                one.go(1 + dice(3));
                other.go(1 + dice(3));
            }
        }
    }

    private static void allByTurns(List<List<Step>> runs) {
        List<Walk> walks = new ArrayList<>();
        for (int i = 0; i < runs.size(); i++) {
            walks.add(new Walk("run " + i + " by turns with all", runs.get(i)));
        }
        for (int call = 0; call < MOST_CALLS; call++) {
            for (Walk walk : walks) {
                walk.go(1);
            }
        }
    }

    /** Behind clear() the calls of another run are answered as by a new object, wherever it comes. */
    private static void behindClear(List<List<Step>> runs) {
        for (int before = 0; before < MOST_CALLS; before++) {
            int i = before % runs.size();
            int j = (before * 11 + 3) % runs.size();
            List<Step> steps = new ArrayList<>(runs.get(i).subList(0, before));
            steps.add(new Step(new Call("clear", 0, 0), 0));
            steps.addAll(runs.get(j).subList(0, MOST_CALLS - 1 - before));
            new Walk(before + " calls of run " + i + ", clear(), then run " + j, steps).go(MOST_CALLS);
        }
    }

    /** A new object is empty, and takes nothing from another, wherever in its run that is. */
    private static void newBetween(List<List<Step>> runs) {
        for (int i = 0; i < runs.size(); i++) {
            Walk old = new Walk("run " + i + " with new objects between", runs.get(i));
            while (!old.isOver()) {
                old.go(1 + dice(40));
                Walk fresh = new Walk("new beside run " + i, runs.get(dice(runs.size())));
                fresh.go(60);
                CutPoints empty = new CutPoints();
                for (int what = 0; what <= 8; what++) {
                    if (empty.count(what) != 0) {
                        fault("count(" + what + ") of a new object beside run " + i);
                    }
                }
            }
        }
    }

    public static void main(String[] args) {
        List<List<Step>> runs = chooseRuns();
        lookWhatIsDue(runs);
        eachAlone(runs);
        twoByTurns(runs);
        allByTurns(runs);
        behindClear(runs);
        newBetween(runs);
        System.out.println(runs.size() + " runs, " + (wrong == 0 ? "all answers are as due" : wrong + " faults"));
        if (wrong != 0) {
            System.exit(1);
        }
    }
}
