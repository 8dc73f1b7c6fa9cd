import java.util.ArrayList;
import java.util.HashMap;
import java.util.List;
import java.util.Map;
import java.util.function.ToIntFunction;

/**
 * Each sentence of the document that names a boundary case, with a test of its own. A test begins with the place and
 * the words of the sentence that it stands for; they are printed with every answer that is not the one due.
 */
public final class BoundariesTest {
    private static final int FREE = MddBranchBound.FREE;
    private static final int IN = MddBranchBound.IN;
    private static final int OUT = MddBranchBound.OUT;
    private static final int MIN = Integer.MIN_VALUE;
    private static final int MAX = Integer.MAX_VALUE;

    private static final int[] SIZES = {2, 5, 12};
    private static final String[] STATES = {"new", "mixed", "all joined", "none allowed", "all out", "all in"};

    private static int wrong = 0;
    private static String words = "";
    private static final Map<String, List<String>> UNTOUCHED = new HashMap<>();

    private record Call(String name, ToIntFunction<MddBranchBound> ask) {
    }

    public static void main(String[] args) {
        whatItIs();
        terms();
        newObject();
        edge();
        chain();
        weigh();
        force();
        neighbours();
        bestAllowedSet();
        counts();
        wholeGraph();
        System.out.println(wrong == 0 ? "all answers are as due" : wrong + " answers are not as due");
        if (wrong != 0) {
            System.exit(1);
        }
    }

    private static void whatItIs() {
        callsUpToTheLast();
        eachMethodAsTheLastCall();
    }

    private static void terms() {
        constants();
        weightsAtFirst();
        edgesAtFirst();
        atMostOneEdgeBetweenTwo();
        freeAtFirst();
        numbersOfSets();
        independentSets();
        allowedSetsAllForced();
        weightsOfSets();
        betterOfEqualWeight();
        questionsChangeNothing();
        refusedCallsChangeNothing();
        orderOfTheTests();
        goodVertices();
    }

    private static void newObject() {
        verticesBelow();
        verticesAbove();
        verticesBetween();
        widthChangesNothing();
    }

    private static void edge() {
        edgeFlag();
        edgeNotGood();
        edgeSame();
        edgeBefore();
    }

    private static void chain() {
        chainCountOfThem();
        chainModulo();
        chainSameEnds();
        chainEdgesStay();
        chainNotGood();
        chainStep();
        chainCount();
        chainAnswer();
    }

    private static void weigh() {
        weighNotGood();
        weighRange();
        weighBefore();
    }

    private static void force() {
        forceNotGood();
        forceRange();
        forceBefore();
    }

    private static void neighbours() {
        neighboursEmptyAndFull();
        neighboursNotGood();
    }

    private static void bestAllowedSet() {
        possibleOrNot();
        bestNone();
        bestSetNone();
        bestSetBetterThanAllOthers();
        bestWithNotGood();
        bestWithNone();
        bestWithoutNotGood();
        bestWithoutNone();
    }

    private static void counts() {
        allowedSetsEmptyAndFull();
        bestSetsNone();
        bestSetsOneAndAll();
        atLeastAnyInt();
    }

    private static void wholeGraph() {
        alphaLeastAndGreatest();
        alphaWithoutWeightsAndForcing();
        coverOfEveryEdge();
        coverOfLeastNumber();
        coverOfFewVertices();
    }

    // ---- What all tests use

    private static void sentence(String place, String said) {
        words = place + ", \"" + said + "\"";
    }

    private static void due(String call, int got, int want) {
        if (got != want) {
            wrong++;
            System.out.println(words + ": " + call + " answered " + got + ", due is " + want);
        }
    }

    private static MddBranchBound fresh(int n) {
        return new MddBranchBound(n, 1);
    }

    private static int full(int n) {
        return (1 << n) - 1;
    }

    private static void joinAll(MddBranchBound x, int n) {
        for (int u = 0; u < n; u++) {
            for (int v = u + 1; v < n; v++) {
                x.edge(u, v, 1);
            }
        }
    }

    private static void weighAll(MddBranchBound x, int n, int weight) {
        for (int v = 0; v < n; v++) {
            x.weigh(v, weight);
        }
    }

    private static void forceAll(MddBranchBound x, int n, int how) {
        for (int v = 0; v < n; v++) {
            x.force(v, how);
        }
    }

    /** All vertices joined, and the two given ones forced in, so that no set is allowed. */
    private static MddBranchBound noneAllowed(int n, int u, int v) {
        MddBranchBound x = fresh(n);
        joinAll(x, n);
        x.force(u, IN);
        x.force(v, IN);
        return x;
    }

    private static MddBranchBound inState(String state, int n) {
        MddBranchBound x = fresh(n);
        switch (state) {
            case "mixed":
                x.chain(0, 1, n - 1);
                x.edge(0, n / 2, 1);
                for (int v = 0; v < n; v++) {
                    x.weigh(v, (v * 7 + 3) % 31);
                }
                x.force(0, IN);
                x.force(n - 1, OUT);
                break;
            case "all joined":
                joinAll(x, n);
                weighAll(x, n, 30);
                break;
            case "none allowed":
                x.edge(0, 1, 1);
                x.force(0, IN);
                x.force(1, IN);
                x.weigh(1, 5);
                break;
            case "all out":
                weighAll(x, n, 0);
                forceAll(x, n, OUT);
                break;
            case "all in":
                weighAll(x, n, 30);
                forceAll(x, n, IN);
                break;
            default:
                break;
        }
        return x;
    }

    private static List<Call> questionsOfAll() {
        List<Call> all = new ArrayList<>();
        all.add(new Call("vertices()", x -> x.vertices()));
        all.add(new Call("possible()", x -> x.possible()));
        all.add(new Call("best()", x -> x.best()));
        all.add(new Call("bestSet()", x -> x.bestSet()));
        all.add(new Call("allowedSets()", x -> x.allowedSets()));
        all.add(new Call("bestSets()", x -> x.bestSets()));
        all.add(new Call("alpha()", x -> x.alpha()));
        all.add(new Call("leastCover()", x -> x.leastCover()));
        for (int bound : new int[] {MIN, -1, 0, 1, 2, 30, 31, 60, MAX}) {
            all.add(new Call("atLeast(" + bound + ")", x -> x.atLeast(bound)));
        }
        return all;
    }

    private static List<Call> questions(int n) {
        List<Call> all = questionsOfAll();
        for (int i = -1; i <= n; i++) {
            int v = i;
            all.add(new Call("neighbours(" + v + ")", x -> x.neighbours(v)));
            all.add(new Call("bestWith(" + v + ")", x -> x.bestWith(v)));
            all.add(new Call("bestWithout(" + v + ")", x -> x.bestWithout(v)));
        }
        return all;
    }

    /** Calls whose answers show every weight, every forcing and every edge that is held. */
    private static List<Call> changes(int n) {
        List<Call> all = new ArrayList<>();
        for (int i = 0; i < n; i++) {
            int v = i;
            all.add(new Call("weigh(" + v + ", " + (30 - v) + ")", x -> x.weigh(v, 30 - v)));
            all.add(new Call("force(" + v + ", " + v % 2 * 2 + ")", x -> x.force(v, v % 2 * 2)));
            for (int j = 0; j < v; j++) {
                int u = j;
                all.add(new Call("edge(" + u + ", " + v + ", 0)", x -> x.edge(u, v, 0)));
            }
        }
        all.add(new Call("chain(" + (n - 1) + ", 1, 2)", x -> x.chain(n - 1, 1, 2)));
        return all;
    }

    /** All questions, then changes that show what is held, then some questions again: at most 167 calls. */
    private static List<String> answers(MddBranchBound x, int n) {
        List<Call> calls = questions(n);
        calls.addAll(changes(n));
        calls.addAll(questionsOfAll());
        List<String> all = new ArrayList<>();
        for (Call call : calls) {
            all.add(call.name + " answered " + call.ask.applyAsInt(x));
        }
        return all;
    }

    private static void sameAnswers(String what, List<String> got, List<String> want) {
        for (int i = 0; i < want.size(); i++) {
            if (!got.get(i).equals(want.get(i))) {
                wrong++;
                System.out.println(words + ": " + what + ", then " + got.get(i) + ", due is what "
                        + want.get(i));
                return;
            }
        }
    }

    private static void asIfNotMade(MddBranchBound x, String state, int n, String call) {
        List<String> want = UNTOUCHED.computeIfAbsent(state + " " + n, key -> answers(inState(state, n), n));
        sameAnswers("n = " + n + ", " + state + ", " + call, answers(x, n), want);
    }

    /** The call answers as due in every state, and every answer afterwards is as if it had not been made. */
    private static void refused(int n, String name, ToIntFunction<MddBranchBound> call, int want) {
        for (String state : STATES) {
            MddBranchBound x = inState(state, n);
            due("n = " + n + ", " + state + ", " + name, call.applyAsInt(x), want);
            asIfNotMade(x, state, n, name);
        }
    }

    /** The first numbers that are no vertices, the outermost ints, and numbers that a shift or a cast makes good. */
    private static int[] notGood(int n) {
        return new int[] {-1, n, MIN, MAX, -n, n + 1, 13, 31, 32, 32 + n - 1, 64, 256, 65536, MIN + 1};
    }

    // ---- What it is

    private static void callsUpToTheLast() {
        sentence("What it is", "An object is used for at most 512 calls after it has been made");
        MddBranchBound changed = fresh(2);
        MddBranchBound asked = fresh(12);
        MddBranchBound refused = fresh(2);
        for (int call = 1; call <= 512; call++) {
            due("change " + call + ", edge", changed.edge(0, 1, call % 2), call == 1 ? 0 : (call - 1) % 2);
            due("question " + call + ", bestSet()", asked.bestSet(), 4095);
            due("refusal " + call + ", weigh(2, 1)", refused.weigh(2, 1), -1);
        }
        MddBranchBound chained = fresh(12);
        MddBranchBound weighed = fresh(2);
        MddBranchBound forced = fresh(2);
        for (int call = 1; call <= 512; call++) {
            due("change " + call + ", chain", chained.chain(call % 12, 1, 1), Math.min(call, 12));
            due("change " + call + ", weigh", weighed.weigh(1, call % 31), call == 1 ? 1 : (call - 1) % 31);
            due("change " + call + ", force", forced.force(1, call % 3), (call - 1) % 3);
        }
    }

    private static void eachMethodAsTheLastCall() {
        sentence("What it is", "An object is used for at most 512 calls after it has been made");
        List<Call> calls = questions(12);
        calls.addAll(changes(12));
        for (Call call : calls) {
            MddBranchBound x = fresh(12);
            for (int turn = 0; turn < 511; turn++) {
                x.edge(turn % 11, turn % 11 + 1, turn >= 500 ? 1 : turn % 2);
            }
            MddBranchBound y = fresh(12);
            y.chain(0, 1, 11);
            due(call.name + " as call 512", call.ask.applyAsInt(x), call.ask.applyAsInt(y));
        }
    }

    // ---- The public face and the terms

    private static void constants() {
        sentence("The public face", "public static final int FREE = 0;");
        due("FREE", FREE, 0);
        sentence("The public face", "public static final int IN = 1;");
        due("IN", IN, 1);
        sentence("The public face", "public static final int OUT = 2;");
        due("OUT", OUT, 2);
    }

    private static void weightsAtFirst() {
        sentence("Terms", "with WEIGHTS 0 .. 30, all 1 at first");
        for (int n = 2; n <= 12; n++) {
            MddBranchBound x = fresh(n);
            due("n = " + n + ", best()", x.best(), n);
            for (int v = 0; v < n; v++) {
                due("n = " + n + ", weigh(" + v + ", 0)", x.weigh(v, 0), 1);
                due("n = " + n + ", weigh(" + v + ", 30)", x.weigh(v, 30), 0);
            }
            due("n = " + n + ", best(), all 30", x.best(), 30 * n);
        }
    }

    private static void edgesAtFirst() {
        sentence("Terms", "none at first");
        for (int n = 2; n <= 12; n++) {
            MddBranchBound x = fresh(n);
            for (int u = 0; u < n; u++) {
                due("n = " + n + ", neighbours(" + u + ")", x.neighbours(u), 0);
                for (int v = 0; v < u; v++) {
                    due("n = " + n + ", edge(" + u + ", " + v + ", 0)", x.edge(u, v, 0), 0);
                }
            }
        }
    }

    private static void atMostOneEdgeBetweenTwo() {
        sentence("Terms", "EDGES between different vertices (at most one between two)");
        MddBranchBound x = fresh(3);
        x.edge(0, 2, 1);
        x.edge(2, 0, 1);
        x.edge(0, 2, -1);
        due("chain(2, 1, 1) over the edge 2 - 0", x.chain(2, 1, 1), 1);
        due("chain(0, 2, 1) over the edge 0 - 2", x.chain(0, 2, 1), 1);
        due("edge(2, 0, 0), made five times", x.edge(2, 0, 0), 1);
        due("edge(0, 2, 0), taken away once", x.edge(0, 2, 0), 0);
        due("chain(0, 3, 1), no edge left", x.chain(0, 3, 1), 0);
    }

    private static void freeAtFirst() {
        sentence("Terms", "all are free at first");
        for (int n = 2; n <= 12; n++) {
            MddBranchBound x = fresh(n);
            due("n = " + n + ", allowedSets()", x.allowedSets(), 1 << n);
            for (int v = 0; v < n; v++) {
                due("n = " + n + ", force(" + v + ", 2)", x.force(v, OUT), FREE);
            }
        }
    }

    private static void numbersOfSets() {
        sentence("Terms", "A set of vertices is written as the sum of 2^v over its members.");
        for (int n = 2; n <= 12; n++) {
            due("n = " + n + ", bestSet(), full", fresh(n).bestSet(), full(n));
            MddBranchBound x = fresh(n);
            forceAll(x, n, OUT);
            due("n = " + n + ", bestSet(), empty", x.bestSet(), 0);
            for (int v = 0; v < n; v++) {
                x.force(v, IN);
                due("n = " + n + ", bestSet(), " + v + " alone", x.bestSet(), 1 << v);
                x.force(v, OUT);
            }
        }
    }

    private static void independentSets() {
        sentence("Terms", "It is INDEPENDENT if no edge joins two of its members");
        for (int n = 2; n <= 12; n++) {
            MddBranchBound x = fresh(n);
            due("n = " + n + ", atLeast(n), no edge: the full set", x.atLeast(n), 1);
            x.edge(0, n - 1, 1);
            due("n = " + n + ", atLeast(n), one edge", x.atLeast(n), 0);
            due("n = " + n + ", atLeast(n - 1), one edge", x.atLeast(n - 1), 2);
            joinAll(x, n);
            due("n = " + n + ", allowedSets(), all joined: the empty set and the single ones", x.allowedSets(), n + 1);
        }
    }

    private static void allowedSetsAllForced() {
        sentence("Terms", "contains all vertices that are forced in and none that is forced out");
        for (int n = 2; n <= 12; n++) {
            MddBranchBound x = fresh(n);
            for (int v = 0; v < n; v++) {
                x.force(v, IN);
                due("n = " + n + ", allowedSets(), 0 .. " + v + " in", x.allowedSets(), 1 << n - 1 - v);
            }
            due("n = " + n + ", bestSet(), all in", x.bestSet(), full(n));
            for (int v = 0; v < n; v++) {
                x.force(v, OUT);
                due("n = " + n + ", bestSet(), 0 .. " + v + " out", x.bestSet(), full(n) - full(v + 1));
            }
            due("n = " + n + ", allowedSets(), all out", x.allowedSets(), 1);
        }
    }

    private static void weightsOfSets() {
        sentence("Terms", "The WEIGHT of a set is the sum of its members' weights.");
        for (int n = 2; n <= 12; n++) {
            MddBranchBound x = fresh(n);
            int sum = n;
            for (int v = 0; v < n; v++) {
                x.weigh(v, 30);
                sum += 29;
                due("n = " + n + ", best(), 0 .. " + v + " of weight 30", x.best(), sum);
            }
            for (int v = 0; v < n; v++) {
                x.weigh(v, 0);
                sum -= 30;
                due("n = " + n + ", best(), 0 .. " + v + " of weight 0", x.best(), sum);
            }
        }
    }

    private static void betterOfEqualWeight() {
        sentence("Terms", "or, with the same weight, that with the greater number");
        for (int n = 2; n <= 12; n++) {
            MddBranchBound x = fresh(n);
            joinAll(x, n);
            for (int v = n - 1; v > 0; v--) {
                due("n = " + n + ", bestSet(), one of 0 .. " + v, x.bestSet(), 1 << v);
                x.force(v, OUT);
            }
            due("n = " + n + ", bestSet(), 0 alone", x.bestSet(), 1);
            x.weigh(0, 0);
            due("n = " + n + ", bestSet(), {0} before the empty set", x.bestSet(), 1);
        }
        MddBranchBound y = fresh(4);
        y.chain(0, 1, 3);
        y.weigh(3, 0);
        due("bestSet(), greater weight before greater number", y.bestSet(), 5);
        y.weigh(3, 1);
        due("bestSet(), {0, 2}, {0, 3} and {1, 3}", y.bestSet(), 10);
    }

    private static void questionsChangeNothing() {
        sentence("Terms", "No question changes anything.");
        for (int n : SIZES) {
            for (Call question : questions(n)) {
                for (String state : STATES) {
                    MddBranchBound x = inState(state, n);
                    int first = question.ask.applyAsInt(x);
                    due(state + ", " + question.name + " again", question.ask.applyAsInt(x), first);
                    asIfNotMade(x, state, n, question.name);
                }
            }
        }
    }

    /** Each refused call by itself is in the tests of its promise; here many follow one another. */
    private static void refusedCallsChangeNothing() {
        sentence("Terms", "A refused call changes nothing.");
        for (int n : SIZES) {
            for (String state : STATES) {
                MddBranchBound x = inState(state, n);
                for (int bad : notGood(n)) {
                    due("edge(" + bad + ", 0, 1)", x.edge(bad, 0, 1), -1);
                    due("edge(0, " + bad + ", 0)", x.edge(0, bad, 0), -1);
                    due("chain(" + bad + ", 1, 12)", x.chain(bad, 1, 12), -1);
                    due("weigh(" + bad + ", 30)", x.weigh(bad, 30), -1);
                    due("force(" + bad + ", 1)", x.force(bad, IN), -1);
                    due("neighbours(" + bad + ")", x.neighbours(bad), -1);
                    due("bestWith(" + bad + ")", x.bestWith(bad), -2);
                    due("bestWithout(" + bad + ")", x.bestWithout(bad), -2);
                }
                for (int v = 0; v < n; v++) {
                    due("edge(" + v + ", " + v + ", 1)", x.edge(v, v, 1), -2);
                    due("chain(" + v + ", 12, 12)", x.chain(v, 12, 12), -2);
                    due("chain(" + v + ", 1, 13)", x.chain(v, 1, 13), -3);
                    due("weigh(" + v + ", 31)", x.weigh(v, 31), -2);
                    due("force(" + v + ", 3)", x.force(v, 3), -2);
                }
                asIfNotMade(x, state, n, "every refused call in a row");
            }
        }
    }

    private static void orderOfTheTests() {
        sentence("Terms", "In every method the tests are made in the order named");
        for (int n : SIZES) {
            for (int v : new int[] {-1, n, MIN, MAX}) {
                refused(n, "edge(" + v + ", " + v + ", 1), -1 before -2", x -> x.edge(v, v, 1), -1);
                refused(n, "chain(" + v + ", 0, 1), -1 before -2", x -> x.chain(v, 0, 1), -1);
                refused(n, "chain(" + v + ", 12, 1), -1 before -2", x -> x.chain(v, 12, 1), -1);
                refused(n, "chain(" + v + ", 1, 0), -1 before -3", x -> x.chain(v, 1, 0), -1);
                refused(n, "chain(" + v + ", 1, 13), -1 before -3", x -> x.chain(v, 1, 13), -1);
                refused(n, "chain(" + v + ", 0, 13), -1 before -2 and -3", x -> x.chain(v, 0, 13), -1);
                refused(n, "weigh(" + v + ", -1), -1 before -2", x -> x.weigh(v, -1), -1);
                refused(n, "weigh(" + v + ", 31), -1 before -2", x -> x.weigh(v, 31), -1);
                refused(n, "force(" + v + ", -1), -1 before -2", x -> x.force(v, -1), -1);
                refused(n, "force(" + v + ", 3), -1 before -2", x -> x.force(v, 3), -1);
            }
            for (int step : new int[] {MIN, 0, 12, MAX}) {
                refused(n, "chain(0, " + step + ", 0), -2 before -3", x -> x.chain(0, step, 0), -2);
                refused(n, "chain(0, " + step + ", 13), -2 before -3", x -> x.chain(0, step, 13), -2);
            }
            MddBranchBound none = noneAllowed(n, 0, n - 1);
            due("bestWith(-1), none allowed: -2 before -1", none.bestWith(-1), -2);
            due("bestWith(n), none allowed: -2 before -1", none.bestWith(n), -2);
            due("bestWithout(-1), none allowed: -2 before -1", none.bestWithout(-1), -2);
            due("bestWithout(n), none allowed: -2 before -1", none.bestWithout(n), -2);
        }
    }

    /** Every n, and every number around the vertices, in each place where a vertex is asked for. */
    private static void goodVertices() {
        sentence("Terms", "a vertex is good if it is 0 .. n-1");
        for (int n = 2; n <= 12; n++) {
            MddBranchBound x = fresh(n);
            for (int v = -20; v <= 40; v++) {
                boolean good = 0 <= v && v <= n - 1;
                String called = "n = " + n + ", v = " + v + ", ";
                // A neighbour that is good and differs, so that v alone decides.
                int other = v == 0 ? 1 : 0;
                due(called + "edge(v, other, 0)", x.edge(v, other, 0), good ? 0 : -1);
                due(called + "edge(other, v, 0)", x.edge(other, v, 0), good ? 0 : -1);
                due(called + "weigh(v, 1)", x.weigh(v, 1), good ? 1 : -1);
                due(called + "force(v, 0)", x.force(v, FREE), good ? FREE : -1);
                due(called + "neighbours(v)", x.neighbours(v), good ? 0 : -1);
                due(called + "bestWith(v)", x.bestWith(v), good ? n : -2);
                due(called + "bestWithout(v)", x.bestWithout(v), good ? n - 1 : -2);
                due(called + "chain(v, 1, 1)", fresh(n).chain(v, 1, 1), good ? 1 : -1);
            }
        }
    }

    // ---- Promise 1: A new object

    private static void verticesBelow() {
        sentence("Promise 1", "below 2 becomes 2");
        List<String> two = answers(fresh(2), 2);
        for (int given : new int[] {MIN, MIN + 1, -12, -2, -1, 0, 1}) {
            due("new (" + given + ", 1).vertices()", fresh(given).vertices(), 2);
            sameAnswers("new (" + given + ", 1)", answers(fresh(given), 2), two);
        }
    }

    private static void verticesAbove() {
        sentence("Promise 1", "above 12 becomes 12");
        List<String> twelve = answers(fresh(12), 12);
        for (int given : new int[] {13, 14, 16, 31, 32, 256, 258, 65536, MAX - 1, MAX}) {
            due("new (" + given + ", 1).vertices()", fresh(given).vertices(), 12);
            sameAnswers("new (" + given + ", 1)", answers(fresh(given), 12), twelve);
        }
    }

    private static void verticesBetween() {
        sentence("Promise 1", "vertices is n");
        for (int n = 2; n <= 12; n++) {
            due("new (" + n + ", 1).vertices()", fresh(n).vertices(), n);
            due("new (" + n + ", 1).neighbours(n - 1)", fresh(n).neighbours(n - 1), 0);
            due("new (" + n + ", 1).neighbours(n)", fresh(n).neighbours(n), -1);
        }
        sentence("Promise 2", "n.");
        for (int n : SIZES) {
            for (String state : STATES) {
                due(state + ", vertices()", inState(state, n).vertices(), n);
            }
        }
    }

    private static void widthChangesNothing() {
        sentence("Promise 1", "width (below 1 becomes 1, above 16 becomes 16) changes no answer of any call");
        List<Integer> widths = new ArrayList<>(List.of(MIN, MIN + 1, -16, -1, 0, 17, 18, 32, 256, MAX - 1, MAX));
        for (int width = 1; width <= 16; width++) {
            widths.add(width);
        }
        for (int n = 2; n <= 12; n++) {
            List<String> want = crowded(new MddBranchBound(n, 1), n);
            for (int width : widths) {
                sameAnswers("new (" + n + ", " + width + ")", crowded(new MddBranchBound(n, width), n), want);
            }
        }
    }

    /** Many sets of equal and of different weight: what a search of small width would be apt to lose. */
    private static List<String> crowded(MddBranchBound x, int n) {
        x.chain(0, 1, n);
        x.chain(0, 3, n);
        for (int v = 0; v < n; v += 2) {
            x.weigh(v, v * 5 % 31);
        }
        x.force(n - 1, n % 3);
        return answers(x, n);
    }

    // ---- Promise 3: edge

    private static void edgeFlag() {
        sentence("Promise 3", "There is an edge between u and v (flag not 0) or none (flag 0).");
        List<Integer> flags = new ArrayList<>(List.of(-1, 2, 3, MIN + 1, MAX, 65535));
        for (int bit = 0; bit < 32; bit++) {
            flags.add(1 << bit);
        }
        for (int flag : flags) {
            MddBranchBound x = fresh(12);
            x.edge(0, 11, flag);
            due("neighbours(0) after edge(0, 11, " + flag + ")", x.neighbours(0), 2048);
            due("neighbours(11) after edge(0, 11, " + flag + ")", x.neighbours(11), 1);
            x.edge(0, 11, flag);
            due("neighbours(0) after edge(0, 11, " + flag + ") twice", x.neighbours(0), 2048);
            x.edge(0, 11, 0);
            due("neighbours(0) after edge(0, 11, 0)", x.neighbours(0), 0);
            due("neighbours(11) after edge(0, 11, 0)", x.neighbours(11), 0);
            x.edge(0, 11, 0);
            due("neighbours(0) after edge(0, 11, 0) twice", x.neighbours(0), 0);
        }
    }

    private static void edgeNotGood() {
        sentence("Promise 3", "-1 if u or v is not good");
        for (int n : SIZES) {
            due("edge(0, n - 1, 1), both good", fresh(n).edge(0, n - 1, 1), 0);
            due("edge(n - 1, 0, 1), both good", fresh(n).edge(n - 1, 0, 1), 0);
            for (int bad : notGood(n)) {
                for (int flag = 0; flag <= 1; flag++) {
                    int f = flag;
                    refused(n, "edge(" + bad + ", 0, " + f + ")", x -> x.edge(bad, 0, f), -1);
                    refused(n, "edge(" + bad + ", n - 1, " + f + ")", x -> x.edge(bad, n - 1, f), -1);
                    refused(n, "edge(0, " + bad + ", " + f + ")", x -> x.edge(0, bad, f), -1);
                    refused(n, "edge(n - 1, " + bad + ", " + f + ")", x -> x.edge(n - 1, bad, f), -1);
                }
                refused(n, "edge(" + bad + ", -1, 1)", x -> x.edge(bad, -1, 1), -1);
                refused(n, "edge(n, " + bad + ", 1)", x -> x.edge(n, bad, 1), -1);
            }
        }
    }

    private static void edgeSame() {
        sentence("Promise 3", "-2 if they are the same");
        for (int n : SIZES) {
            for (int i = 0; i < n; i++) {
                int v = i;
                for (int flag : new int[] {0, 1, -1, MIN, MAX}) {
                    refused(n, "edge(" + v + ", " + v + ", " + flag + ")", x -> x.edge(v, v, flag), -2);
                }
                int next = (v + 1) % n;
                due("edge(" + v + ", " + next + ", 1)", fresh(n).edge(v, next, 1), 0);
                due("edge(" + next + ", " + v + ", 1)", fresh(n).edge(next, v, 1), 0);
            }
        }
    }

    private static void edgeBefore() {
        sentence("Promise 3", "otherwise 1 if there was one before, else 0");
        for (int n = 2; n <= 12; n++) {
            for (int u = 0; u < n; u++) {
                for (int v = 0; v < n; v++) {
                    if (u != v) {
                        edgeBefore(fresh(n), "n = " + n + ", edge(" + u + ", " + v + ", ", u, v);
                    }
                }
            }
        }
    }

    private static void edgeBefore(MddBranchBound x, String call, int u, int v) {
        due(call + "0), none before", x.edge(u, v, 0), 0);
        due(call + "MIN), none before", x.edge(u, v, MIN), 0);
        due(call + "MAX), one before", x.edge(u, v, MAX), 1);
        due(call + "1), one before, made the other way round", x.edge(v, u, 1), 1);
        due(call + "0), one before", x.edge(u, v, 0), 1);
        due(call + "0), none before", x.edge(v, u, 0), 0);
    }

    // ---- Promise 4: chain

    /** The edges that are due, straight from the document: v + i * step and v + (i + 1) * step, modulo n. */
    private static int[] chained(int n, int v, int step, int count) {
        int[] sets = new int[n];
        for (int i = 0; i < count; i++) {
            int from = (v + i * step) % n;
            int to = (v + (i + 1) * step) % n;
            if (from != to) {
                sets[from] |= 1 << to;
                sets[to] |= 1 << from;
            }
        }
        return sets;
    }

    private static void chainCountOfThem() {
        sentence("Promise 4", "Makes edges between v and v + step, v + step and v + 2 * step, .., count of them");
        for (int count = 1; count <= 12; count++) {
            MddBranchBound x = fresh(12);
            due("chain(0, 1, " + count + ")", x.chain(0, 1, count), count);
            for (int v = 0; v < 12; v++) {
                due("chain(0, 1, " + count + "), edge " + v, x.edge(v, (v + 1) % 12, 1), v < count ? 1 : 0);
            }
        }
    }

    private static void chainModulo() {
        sentence("Promise 4", "all numbers modulo n (remainders in 0 .. n-1");
        for (int n = 2; n <= 12; n++) {
            for (int v = 0; v < n; v++) {
                for (int step = 1; step <= 11; step++) {
                    for (int count = 1; count <= 12; count++) {
                        chainModulo(n, v, step, count);
                    }
                }
            }
        }
    }

    private static void chainModulo(int n, int v, int step, int count) {
        MddBranchBound x = fresh(n);
        String called = "n = " + n + ", chain(" + v + ", " + step + ", " + count + ")";
        int[] want = chained(n, v, step, count);
        int ends = 0;
        for (int set : want) {
            ends += Integer.bitCount(set);
        }
        due(called, x.chain(v, step, count), ends / 2);
        for (int u = 0; u < n; u++) {
            due(called + ", neighbours(" + u + ")", x.neighbours(u), want[u]);
        }
    }

    private static void chainSameEnds() {
        sentence("Promise 4", "where both ends are the same nothing is made");
        for (int n = 2; n <= 11; n++) {
            for (int step = n; step <= 11; step += n) {
                for (int v = 0; v < n; v++) {
                    MddBranchBound x = fresh(n);
                    String called = "n = " + n + ", chain(" + v + ", " + step + ", ";
                    due(called + "1)", x.chain(v, step, 1), 0);
                    due(called + "12)", x.chain(v, step, 12), 0);
                    due(called + "12), neighbours(v)", x.neighbours(v), 0);
                    due(called + "12), allowedSets()", x.allowedSets(), 1 << n);
                    x.edge(v, (v + 1) % n, 1);
                    due(called + "12), one edge there", x.chain(v, step, 12), 1);
                }
            }
        }
    }

    private static void chainEdgesStay() {
        sentence("Promise 4", "edges that are there stay");
        for (int n = 2; n <= 12; n++) {
            for (int step = 1; step <= 11; step++) {
                MddBranchBound x = fresh(n);
                joinAll(x, n);
                due("n = " + n + ", all joined, chain(0, " + step + ", 12)", x.chain(0, step, 12), n * (n - 1) / 2);
                due("n = " + n + ", all joined, chain(0, " + step + ", 1)", x.chain(0, step, 1), n * (n - 1) / 2);
                for (int v = 0; v < n; v++) {
                    due("n = " + n + ", all joined, neighbours(" + v + ")", x.neighbours(v), full(n) - (1 << v));
                }
            }
        }
        MddBranchBound ring = fresh(3);
        due("chain(0, 1, 12), four times round", ring.chain(0, 1, 12), 3);
        MddBranchBound pair = fresh(2);
        due("chain(0, 1, 12), to and fro", pair.chain(0, 1, 12), 1);
        MddBranchBound apart = fresh(6);
        apart.edge(3, 5, 1);
        due("chain(0, 1, 1), an edge elsewhere", apart.chain(0, 1, 1), 2);
        due("chain(0, 1, 1), edge(5, 3, 1)", apart.edge(5, 3, 1), 1);
    }

    private static void chainNotGood() {
        sentence("Promise 4", "-1 if v is not good");
        for (int n : SIZES) {
            due("chain(0, 1, 1), good", fresh(n).chain(0, 1, 1), 1);
            due("chain(n - 1, 1, 1), good", fresh(n).chain(n - 1, 1, 1), 1);
            for (int bad : notGood(n)) {
                refused(n, "chain(" + bad + ", 1, 1)", x -> x.chain(bad, 1, 1), -1);
                refused(n, "chain(" + bad + ", 11, 12)", x -> x.chain(bad, 11, 12), -1);
            }
        }
    }

    private static void chainStep() {
        sentence("Promise 4", "-2 if step is not in 1 .. 11");
        for (int n : SIZES) {
            due("n = " + n + ", chain(0, 1, 1)", fresh(n).chain(0, 1, 1), 1);
            due("n = " + n + ", chain(0, 11, 1)", fresh(n).chain(0, 11, 1), 1);
            for (int step : new int[] {MIN, MIN + 1, -11, -1, 0, 12, 13, 23, 257, 65537, MAX - 1, MAX}) {
                for (int v : new int[] {0, n - 1}) {
                    String called = "chain(" + v + ", " + step + ", ";
                    refused(n, called + "1)", x -> x.chain(v, step, 1), -2);
                    refused(n, called + "12)", x -> x.chain(v, step, 12), -2);
                }
            }
        }
    }

    private static void chainCount() {
        sentence("Promise 4", "-3 if count is not in 1 .. 12");
        for (int n : SIZES) {
            due("n = " + n + ", chain(0, 1, 1)", fresh(n).chain(0, 1, 1), 1);
            due("n = " + n + ", chain(0, 1, 12)", fresh(n).chain(0, 1, 12), n == 2 ? 1 : n);
            for (int count : new int[] {MIN, MIN + 1, -12, -1, 0, 13, 14, 24, 257, 65537, MAX - 1, MAX}) {
                for (int v : new int[] {0, n - 1}) {
                    refused(n, "chain(" + v + ", 1, " + count + ")", x -> x.chain(v, 1, count), -3);
                    refused(n, "chain(" + v + ", 11, " + count + ")", x -> x.chain(v, 11, count), -3);
                }
            }
        }
    }

    private static void chainAnswer() {
        sentence("Promise 4", "otherwise answers how many edges there are in all");
        for (int n = 2; n <= 12; n++) {
            MddBranchBound x = fresh(n);
            int made = 1;
            due("n = " + n + ", chain(0, 1, 1), the first edge", x.chain(0, 1, 1), made);
            for (int u = 0; u < n; u++) {
                for (int v = u + 1; v < n; v++) {
                    made += x.edge(u, v, 1) == 0 ? 1 : 0;
                    due("n = " + n + ", chain(0, 1, 1), " + made + " edges", x.chain(0, 1, 1), made);
                }
            }
            due("n = " + n + ", the number of all pairs", made, n * (n - 1) / 2);
            x.edge(0, n - 1, 0);
            due("n = " + n + ", chain(0, 1, 1), one taken away", x.chain(0, 1, 1), n == 2 ? 1 : made - 1);
        }
    }

    // ---- Promise 5: weigh

    private static void weighNotGood() {
        sentence("Promise 5", "-1 if v is not good");
        for (int n : SIZES) {
            due("weigh(0, 2), good", fresh(n).weigh(0, 2), 1);
            due("weigh(n - 1, 2), good", fresh(n).weigh(n - 1, 2), 1);
            for (int bad : notGood(n)) {
                refused(n, "weigh(" + bad + ", 0)", x -> x.weigh(bad, 0), -1);
                refused(n, "weigh(" + bad + ", 30)", x -> x.weigh(bad, 30), -1);
            }
        }
    }

    private static void weighRange() {
        sentence("Promise 5", "-2 if weight is not in 0 .. 30");
        for (int n : SIZES) {
            for (int v = 0; v < n; v++) {
                MddBranchBound x = fresh(n);
                due("weigh(" + v + ", 0)", x.weigh(v, 0), 1);
                due("weigh(" + v + ", 0), best()", x.best(), n - 1);
                due("weigh(" + v + ", 30)", x.weigh(v, 30), 0);
                due("weigh(" + v + ", 30), best()", x.best(), n - 1 + 30);
            }
            for (int weight : new int[] {MIN, MIN + 1, -30, -2, -1, 31, 32, 62, 255, 256, 286, 65536, MAX - 1, MAX}) {
                for (int v : new int[] {0, n / 2, n - 1}) {
                    refused(n, "weigh(" + v + ", " + weight + ")", x -> x.weigh(v, weight), -2);
                }
            }
        }
    }

    private static void weighBefore() {
        sentence("Promise 5", "otherwise answers the weight before");
        MddBranchBound x = fresh(12);
        for (int v = 0; v < 12; v++) {
            int before = 1;
            for (int weight = 0; weight <= 30; weight++) {
                due("weigh(" + v + ", " + weight + ")", x.weigh(v, weight), before);
                before = weight;
            }
            due("weigh(" + v + ", " + v + ")", x.weigh(v, v), 30);
        }
        due("best() of the weights 0 .. 11", x.best(), 66);
        for (int v = 0; v < 12; v++) {
            due("weigh(" + v + ", 1), kept to the end", x.weigh(v, 1), v);
        }
    }

    // ---- Promise 6: force

    private static void forceNotGood() {
        sentence("Promise 6", "-1 if v is not good");
        for (int n : SIZES) {
            due("force(0, 1), good", fresh(n).force(0, IN), FREE);
            due("force(n - 1, 1), good", fresh(n).force(n - 1, IN), FREE);
            for (int bad : notGood(n)) {
                for (int how = FREE; how <= OUT; how++) {
                    int h = how;
                    refused(n, "force(" + bad + ", " + h + ")", x -> x.force(bad, h), -1);
                }
            }
        }
    }

    private static void forceRange() {
        sentence("Promise 6", "-2 if how is not in 0 .. 2");
        for (int n : SIZES) {
            for (int how = 0; how <= 2; how++) {
                MddBranchBound x = fresh(n);
                due("force(n - 1, " + how + ")", x.force(n - 1, how), 0);
                due("force(n - 1, 0), before " + how, x.force(n - 1, 0), how);
            }
            for (int how : new int[] {MIN, MIN + 1, -3, -2, -1, 3, 4, 5, 256, 257, 258, 65537, MAX - 1, MAX}) {
                for (int v : new int[] {0, n / 2, n - 1}) {
                    refused(n, "force(" + v + ", " + how + ")", x -> x.force(v, how), -2);
                }
            }
        }
    }

    private static void forceBefore() {
        sentence("Promise 6", "otherwise answers how it was before");
        for (int n : SIZES) {
            for (int v = 0; v < n; v++) {
                for (int first = FREE; first <= OUT; first++) {
                    for (int then = FREE; then <= OUT; then++) {
                        forceBefore(n, v, first, then);
                    }
                }
            }
        }
    }

    private static void forceBefore(int n, int v, int first, int then) {
        MddBranchBound x = fresh(n);
        String called = "n = " + n + ", v = " + v + ", from " + first + " to " + then + ", ";
        due(called + "first", x.force(v, first), FREE);
        due(called + "then", x.force(v, then), first);
        due(called + "allowedSets()", x.allowedSets(), then == FREE ? 1 << n : 1 << n - 1);
        due(called + "bestSet()", x.bestSet(), then == OUT ? full(n) - (1 << v) : full(n));
        due(called + "bestWithout(v)", x.bestWithout(v), then == IN ? -1 : n - 1);
        due(called + "last", x.force(v, FREE), then);
    }

    // ---- Promise 7: neighbours

    private static void neighboursEmptyAndFull() {
        sentence("Promise 7", "The set of the vertices joined to v by an edge");
        for (int n = 2; n <= 12; n++) {
            MddBranchBound x = fresh(n);
            for (int v = 0; v < n; v++) {
                due("n = " + n + ", no edge, neighbours(" + v + ")", x.neighbours(v), 0);
            }
            joinAll(x, n);
            for (int how : new int[] {FREE, OUT, IN}) {
                forceAll(x, n, how);
                weighAll(x, n, how * 15);
                for (int v = 0; v < n; v++) {
                    due("n = " + n + ", all joined, all forced " + how + ", neighbours(" + v + ")",
                            x.neighbours(v), full(n) - (1 << v));
                }
            }
            x.edge(n - 1, 0, 0);
            due("n = " + n + ", 0 - n-1 gone, neighbours(0)", x.neighbours(0), full(n - 1) - 1);
            due("n = " + n + ", 0 - n-1 gone, neighbours(n - 1)", x.neighbours(n - 1), full(n - 1) - 1);
        }
    }

    private static void neighboursNotGood() {
        sentence("Promise 7", "-1 if v is not good");
        for (int n : SIZES) {
            due("neighbours(0), good", fresh(n).neighbours(0), 0);
            due("neighbours(n - 1), good", fresh(n).neighbours(n - 1), 0);
            for (int bad : notGood(n)) {
                refused(n, "neighbours(" + bad + ")", x -> x.neighbours(bad), -1);
            }
        }
    }

    // ---- Promises 8 to 12: possible, best, bestSet, bestWith, bestWithout

    private static void possibleOrNot() {
        sentence("Promise 8", "1 if some allowed set exists, otherwise 0");
        for (int n = 2; n <= 12; n++) {
            due("n = " + n + ", no edge, all free", fresh(n).possible(), 1);
            for (int u = 0; u < n; u++) {
                for (int v = 0; v < u; v++) {
                    String pair = "n = " + n + ", possible(), " + u + " and " + v + " ";
                    MddBranchBound x = fresh(n);
                    forceAll(x, n, IN);
                    due(pair + "not joined, all in: the full set", x.possible(), 1);
                    x.edge(u, v, 1);
                    due(pair + "joined, all in", x.possible(), 0);
                    x.force(u, OUT);
                    due(pair + "joined, one of them out", x.possible(), 1);
                    x.force(u, IN);
                    x.edge(v, u, 0);
                    due(pair + "parted, all in", x.possible(), 1);
                }
            }
            MddBranchBound out = fresh(n);
            joinAll(out, n);
            forceAll(out, n, OUT);
            due("n = " + n + ", all joined, all out: the empty set", out.possible(), 1);
            weighAll(out, n, 0);
            due("n = " + n + ", all of weight 0", out.possible(), 1);
        }
    }

    private static void bestNone() {
        sentence("Promise 9", "-1 if there is none");
        for (int n = 2; n <= 12; n++) {
            MddBranchBound x = noneAllowed(n, 0, n - 1);
            due("n = " + n + ", best(), none allowed", x.best(), -1);
            weighAll(x, n, 0);
            due("n = " + n + ", best(), none allowed, weights 0", x.best(), -1);
            weighAll(x, n, 30);
            due("n = " + n + ", best(), none allowed, weights 30", x.best(), -1);
            x.force(0, FREE);
            due("n = " + n + ", best(), 0 free again", x.best(), 30);
            forceAll(x, n, OUT);
            due("n = " + n + ", best(), the empty set alone", x.best(), 0);
            x.weigh(0, 0);
            x.force(0, IN);
            due("n = " + n + ", best(), a vertex of weight 0 alone", x.best(), 0);
        }
    }

    private static void bestSetNone() {
        sentence("Promise 10", "-1 if there is none");
        for (int n = 2; n <= 12; n++) {
            MddBranchBound x = noneAllowed(n, 0, n - 1);
            due("n = " + n + ", bestSet(), none allowed", x.bestSet(), -1);
            weighAll(x, n, 0);
            due("n = " + n + ", bestSet(), none allowed, weights 0", x.bestSet(), -1);
            x.edge(0, n - 1, 0);
            due("n = " + n + ", bestSet(), 0 - n-1 gone", x.bestSet(), 1 | 1 << n - 1);
            forceAll(x, n, OUT);
            due("n = " + n + ", bestSet(), the empty set alone", x.bestSet(), 0);
        }
    }

    private static void bestSetBetterThanAllOthers() {
        sentence("Promise 10", "The best allowed set (better than all others)");
        for (int n = 2; n <= 12; n++) {
            MddBranchBound x = fresh(n);
            weighAll(x, n, 0);
            due("n = " + n + ", bestSet(), all sets of weight 0", x.bestSet(), full(n));
            joinAll(x, n);
            due("n = " + n + ", bestSet(), all joined, weight 0", x.bestSet(), 1 << n - 1);
            for (int v = 0; v < n; v++) {
                x.weigh(v, 1);
                due("n = " + n + ", bestSet(), 0 .. " + v + " of weight 1", x.bestSet(), 1 << v);
            }
            x.weigh(0, 2);
            due("n = " + n + ", bestSet(), 0 the heaviest", x.bestSet(), 1);
        }
    }

    private static void bestWithNotGood() {
        sentence("Promise 11", "-2 if v is not good");
        for (int n : SIZES) {
            due("bestWith(0), good", fresh(n).bestWith(0), n);
            due("bestWith(n - 1), good", fresh(n).bestWith(n - 1), n);
            for (int bad : notGood(n)) {
                refused(n, "bestWith(" + bad + ")", x -> x.bestWith(bad), -2);
            }
        }
    }

    private static void bestWithNone() {
        sentence("Promise 11", "-1 if there is none");
        for (int n = 2; n <= 12; n++) {
            for (int v = 0; v < n; v++) {
                String called = "n = " + n + ", bestWith(" + v + "), ";
                int other = v == 0 ? n - 1 : 0;
                due(called + "none allowed", noneAllowed(n, 0, n - 1).bestWith(v), -1);
                MddBranchBound x = fresh(n);
                x.weigh(v, 0);
                x.force(v, OUT);
                due(called + "v out", x.bestWith(v), -1);
                x.force(v, FREE);
                due(called + "v free", x.bestWith(v), n - 1);
                x.edge(v, other, 1);
                due(called + "joined to a free one", x.bestWith(v), n - 2);
                x.force(other, IN);
                due(called + "joined to one that is in", x.bestWith(v), -1);
                forceAll(x, n, OUT);
                x.force(v, IN);
                due(called + "v alone, of weight 0", x.bestWith(v), 0);
            }
        }
    }

    private static void bestWithoutNotGood() {
        sentence("Promise 12", "-2 if v is not good");
        for (int n : SIZES) {
            due("bestWithout(0), good", fresh(n).bestWithout(0), n - 1);
            due("bestWithout(n - 1), good", fresh(n).bestWithout(n - 1), n - 1);
            for (int bad : notGood(n)) {
                refused(n, "bestWithout(" + bad + ")", x -> x.bestWithout(bad), -2);
            }
        }
    }

    private static void bestWithoutNone() {
        sentence("Promise 12", "-1 if there is none");
        for (int n = 2; n <= 12; n++) {
            for (int v = 0; v < n; v++) {
                String called = "n = " + n + ", bestWithout(" + v + "), ";
                due(called + "none allowed", noneAllowed(n, 0, n - 1).bestWithout(v), -1);
                MddBranchBound x = fresh(n);
                x.force(v, IN);
                due(called + "v in", x.bestWithout(v), -1);
                x.force(v, FREE);
                due(called + "v free", x.bestWithout(v), n - 1);
                forceAll(x, n, OUT);
                due(called + "all out: the empty set", x.bestWithout(v), 0);
                x.force(v, FREE);
                due(called + "all others out: the empty set", x.bestWithout(v), 0);
            }
        }
    }

    // ---- Promises 13 to 15: allowedSets, bestSets, atLeast

    private static void allowedSetsEmptyAndFull() {
        sentence("Promise 13", "How many allowed sets there are.");
        for (int n = 2; n <= 12; n++) {
            MddBranchBound x = fresh(n);
            due("n = " + n + ", allowedSets(), every set", x.allowedSets(), 1 << n);
            weighAll(x, n, 0);
            due("n = " + n + ", allowedSets(), every set, weights 0", x.allowedSets(), 1 << n);
            forceAll(x, n, OUT);
            due("n = " + n + ", allowedSets(), the empty set alone", x.allowedSets(), 1);
            forceAll(x, n, IN);
            due("n = " + n + ", allowedSets(), the full set alone", x.allowedSets(), 1);
            due("n = " + n + ", allowedSets(), none", noneAllowed(n, 0, n - 1).allowedSets(), 0);
        }
    }

    private static void bestSetsNone() {
        sentence("Promise 14", "(0 if there is none)");
        for (int n = 2; n <= 12; n++) {
            MddBranchBound x = noneAllowed(n, 0, n - 1);
            due("n = " + n + ", bestSets(), none allowed", x.bestSets(), 0);
            weighAll(x, n, 0);
            due("n = " + n + ", bestSets(), none allowed, weights 0", x.bestSets(), 0);
            x.force(0, OUT);
            due("n = " + n + ", bestSets(), 0 out", x.bestSets(), 1);
        }
    }

    private static void bestSetsOneAndAll() {
        sentence("Promise 14", "How many allowed sets have the weight best()");
        for (int n = 2; n <= 12; n++) {
            MddBranchBound x = fresh(n);
            due("n = " + n + ", bestSets(), the full set alone", x.bestSets(), 1);
            for (int v = 0; v < n; v++) {
                x.weigh(v, 0);
                due("n = " + n + ", bestSets(), 0 .. " + v + " of weight 0", x.bestSets(), 1 << v + 1);
            }
            forceAll(x, n, OUT);
            due("n = " + n + ", bestSets(), the empty set alone", x.bestSets(), 1);
            MddBranchBound joined = fresh(n);
            joinAll(joined, n);
            due("n = " + n + ", bestSets(), all joined", joined.bestSets(), n);
            for (int v = 0; v < n; v++) {
                joined.weigh(v, 30);
                due("n = " + n + ", bestSets(), all joined, " + v + " heavy", joined.bestSets(), 1);
                joined.weigh(v, 0);
                due("n = " + n + ", bestSets(), all joined, " + v + " light", joined.bestSets(), n - 1);
                joined.weigh(v, 1);
            }
        }
    }

    private static void atLeastAnyInt() {
        sentence("Promise 15", "How many allowed sets have a weight of at least bound (any int).");
        for (int n = 2; n <= 12; n++) {
            MddBranchBound x = fresh(n);
            weighAll(x, n, 30);
            for (int bound : new int[] {MIN, MIN + 1, -361, -1, 0}) {
                due("n = " + n + ", atLeast(" + bound + "), all", x.atLeast(bound), 1 << n);
                due("n = " + n + ", atLeast(" + bound + "), none allowed",
                        noneAllowed(n, 0, n - 1).atLeast(bound), 0);
            }
            due("n = " + n + ", atLeast(1), all but the empty set", x.atLeast(1), (1 << n) - 1);
            due("n = " + n + ", atLeast(30)", x.atLeast(30), (1 << n) - 1);
            due("n = " + n + ", atLeast(31)", x.atLeast(31), (1 << n) - 1 - n);
            due("n = " + n + ", atLeast(best() - 1)", x.atLeast(30 * n - 1), 1);
            due("n = " + n + ", atLeast(best())", x.atLeast(30 * n), 1);
            for (int bound : new int[] {30 * n + 1, 361, 65536, MAX - 1, MAX}) {
                due("n = " + n + ", atLeast(" + bound + "), over the best", x.atLeast(bound), 0);
            }
        }
    }

    // ---- Promises 16 and 17: alpha, leastCover

    private static void alphaLeastAndGreatest() {
        sentence("Promise 16", "The greatest number of vertices of an independent set");
        for (int n = 2; n <= 12; n++) {
            MddBranchBound x = fresh(n);
            due("n = " + n + ", alpha(), no edge", x.alpha(), n);
            for (int v = 1; v < n; v++) {
                x.edge(0, v, 1);
                due("n = " + n + ", alpha(), 0 joined to 1 .. " + v, x.alpha(), n - 1);
            }
            joinAll(x, n);
            due("n = " + n + ", alpha(), all joined", x.alpha(), 1);
            x.edge(0, n - 1, 0);
            due("n = " + n + ", alpha(), 0 - n-1 gone", x.alpha(), 2);
        }
    }

    private static void alphaWithoutWeightsAndForcing() {
        sentence("Promise 16", "(weights and forcing play no part)");
        for (int n = 2; n <= 12; n++) {
            for (int how = FREE; how <= OUT; how++) {
                for (int weight : new int[] {0, 1, 30}) {
                    String called = "n = " + n + ", alpha(), all of weight " + weight + ", all forced " + how;
                    MddBranchBound x = fresh(n);
                    weighAll(x, n, weight);
                    forceAll(x, n, how);
                    due(called + ", no edge", x.alpha(), n);
                    x.chain(0, 1, n);
                    due(called + ", a ring", x.alpha(), n == 2 ? 1 : n / 2);
                    joinAll(x, n);
                    due(called + ", all joined", x.alpha(), 1);
                }
            }
            MddBranchBound star = fresh(n);
            star.weigh(0, 30);
            star.force(0, IN);
            for (int v = 1; v < n; v++) {
                star.weigh(v, 0);
                star.force(v, OUT);
                star.edge(0, v, 1);
            }
            due("n = " + n + ", alpha(), a star, its middle in and heavy", star.alpha(), n - 1);
        }
    }

    private static void coverOfEveryEdge() {
        sentence("Promise 17", "contains an end of every edge");
        for (int n = 2; n <= 12; n++) {
            MddBranchBound x = fresh(n);
            due("n = " + n + ", leastCover(), no edge: the empty set", x.leastCover(), 0);
            joinAll(x, n);
            due("n = " + n + ", leastCover(), all joined: all but the last", x.leastCover(), full(n - 1));
            forceAll(x, n, OUT);
            weighAll(x, n, 30);
            due("n = " + n + ", leastCover(), all joined, all out", x.leastCover(), full(n - 1));
            forceAll(x, n, IN);
            weighAll(x, n, 0);
            due("n = " + n + ", leastCover(), all joined, none allowed", x.leastCover(), full(n - 1));
        }
    }

    private static void coverOfLeastNumber() {
        sentence("Promise 17", "The least number of a set of vertices");
        for (int n = 2; n <= 12; n++) {
            for (int u = 0; u < n; u++) {
                for (int v = 0; v < u; v++) {
                    MddBranchBound x = fresh(n);
                    x.edge(u, v, 1);
                    due("n = " + n + ", leastCover(), " + u + " - " + v + " alone", x.leastCover(), 1 << v);
                }
            }
        }
        MddBranchBound ring = fresh(12);
        ring.chain(0, 1, 12);
        due("leastCover(), the ring of 12: every second from 0", ring.leastCover(), 0x555);
    }

    private static void coverOfFewVertices() {
        sentence("Promise 17", "has as few vertices as possible");
        for (int n = 3; n <= 12; n++) {
            for (int middle = 0; middle < n; middle++) {
                MddBranchBound x = fresh(n);
                for (int v = 0; v < n; v++) {
                    x.edge(middle, v, 1);
                }
                due("n = " + n + ", leastCover(), a star around " + middle, x.leastCover(), 1 << middle);
            }
        }
    }
}
