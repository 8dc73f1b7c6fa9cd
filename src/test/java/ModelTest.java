import java.util.ArrayList;
import java.util.List;
import java.util.TreeSet;
import java.util.stream.IntStream;

/**
 * Long mixed runs of calls, every graph and forcing of few vertices, and every chain, compared with a slow model that
 * is written straight from the document.
 */
public final class ModelTest {
    private static final int RUNS = 300;
    private static final int CALLS = 70;

    private static int wrong = 0;
    private static long seed = 20261115L;

    /** Our own numbers, so that every run of the test is the same. */
    private static int below(int bound) {
        seed = seed * 6364136223846793005L + 1442695040888963407L;
        return (int) ((seed >>> 33) % bound);
    }

    private static int between(int least, int most) {
        return least + below(most - least + 1);
    }

    public static void main(String[] args) {
        for (int run = 0; run < RUNS && wrong < 20; run++) {
            mixedRun(run);
        }
        everyState(2, IntStream.rangeClosed(0, 30).toArray());
        everyState(3, new int[] {0, 1, 2, 30});
        everyState(4, new int[] {1, 2});
        for (int n = 2; n <= 12; n++) {
            everyChain(n, 0);
        }
        for (int n = 2; n <= 4; n++) {
            for (int graph = 1; graph < 1 << n * (n - 1) / 2; graph++) {
                everyChain(n, graph);
            }
        }
        System.out.println(wrong == 0 ? "all answers are as due" : wrong + " answers are not as due");
        if (wrong != 0) {
            System.exit(1);
        }
    }

    private static void mixedRun(int run) {
        int vertices = between(0, 14);
        int width = between(-1, 18);
        MddBranchBound x = new MddBranchBound(vertices, width);
        Model model = new Model(vertices);
        StringBuilder past = new StringBuilder("new (" + vertices + ", " + width + ")");
        for (int call = 0; call < CALLS; call++) {
            change(x, model, past);
            if (call % 10 == 9 && !asked(x, model, past)) {
                return;
            }
        }
    }

    private static void change(MddBranchBound x, Model model, StringBuilder past) {
        int a = between(-1, model.n);
        int b = between(-1, model.n);
        switch (below(5)) {
            case 0: {
                int flag = between(-1, 1);
                due(past, "edge(" + a + ", " + b + ", " + flag + ")", x.edge(a, b, flag), model.edge(a, b, flag));
                break;
            }
            case 1: {
                int step = between(0, 12);
                int count = below(4) == 0 ? between(0, 13) : between(1, 3);
                due(past, "chain(" + a + ", " + step + ", " + count + ")", x.chain(a, step, count),
                        model.chain(a, step, count));
                break;
            }
            case 2: {
                // Few different weights bring many sets of equal weight.
                int weight = below(3) == 0 ? between(-1, 31) : between(0, 2);
                due(past, "weigh(" + a + ", " + weight + ")", x.weigh(a, weight), model.weigh(a, weight));
                break;
            }
            case 3: {
                int how = below(2) == 0 ? 0 : between(-1, 3);
                due(past, "force(" + a + ", " + how + ")", x.force(a, how), model.force(a, how));
                break;
            }
            default: {
                due(past, "edge(" + a + ", " + b + ", 0)", x.edge(a, b, 0), model.edge(a, b, 0));
            }
        }
    }

    /** Asked twice, since no question may change anything. */
    private static boolean asked(MddBranchBound x, Model model, StringBuilder past) {
        int before = wrong;
        model.listSets();
        for (int turn = 0; turn < 2; turn++) {
            askOfAll(x, model, past);
            askOfBound(x, model, past, between(-1, 40));
            askOfVertex(x, model, past, between(-1, model.n));
        }
        return wrong == before;
    }

    private static void askOfAll(MddBranchBound x, Model model, StringBuilder past) {
        due(past, "vertices()", x.vertices(), model.n);
        due(past, "possible()", x.possible(), model.allowed.isEmpty() ? 0 : 1);
        due(past, "best()", x.best(), model.best(model.allowed));
        due(past, "bestSet()", x.bestSet(), model.bestSet(model.allowed));
        due(past, "allowedSets()", x.allowedSets(), model.allowed.size());
        due(past, "bestSets()", x.bestSets(), model.bestSets());
        due(past, "alpha()", x.alpha(), model.alpha());
        due(past, "leastCover()", x.leastCover(), model.leastCover());
    }

    private static void askOfBound(MddBranchBound x, Model model, StringBuilder past, int bound) {
        due(past, "atLeast(" + bound + ")", x.atLeast(bound), model.atLeast(bound));
    }

    private static void askOfVertex(MddBranchBound x, Model model, StringBuilder past, int v) {
        due(past, "neighbours(" + v + ")", x.neighbours(v), model.neighbours(v));
        due(past, "bestWith(" + v + ")", x.bestWith(v), model.bestHaving(v, true));
        due(past, "bestWithout(" + v + ")", x.bestWithout(v), model.bestHaving(v, false));
    }

    private static int power(int base, int times) {
        int product = 1;
        for (int i = 0; i < times; i++) {
            product *= base;
        }
        return product;
    }

    /** Every graph on n vertices, with every forcing of them and every choice among the weights. */
    private static void everyState(int n, int[] weights) {
        for (int graph = 0; graph < 1 << n * (n - 1) / 2; graph++) {
            for (int forcing = 0; forcing < power(3, n); forcing++) {
                for (int weighing = 0; weighing < power(weights.length, n) && wrong < 20; weighing++) {
                    oneState(n, graph, forcing, weighing, weights);
                }
            }
        }
    }

    private static void oneState(int n, int graph, int forcing, int weighing, int[] weights) {
        MddBranchBound x = new MddBranchBound(n, 1);
        Model model = new Model(n);
        StringBuilder past = new StringBuilder("new (" + n + ", 1)");
        joinAll(x, model, past, graph);
        int most = 0;
        for (int v = 0; v < n; v++) {
            int how = forcing / power(3, v) % 3;
            int weight = weights[weighing / power(weights.length, v) % weights.length];
            due(past, "force(" + v + ", " + how + ")", x.force(v, how), model.force(v, how));
            due(past, "weigh(" + v + ", " + weight + ")", x.weigh(v, weight), model.weigh(v, weight));
            most += weight;
        }
        model.listSets();
        askOfAll(x, model, past);
        for (int bound = -1; bound <= most + 1; bound++) {
            askOfBound(x, model, past, bound);
        }
        for (int v = -1; v <= n; v++) {
            askOfVertex(x, model, past, v);
        }
    }

    /** The bits of graph tell, pair by pair, which edges there are. */
    private static void joinAll(MddBranchBound x, Model model, StringBuilder past, int graph) {
        int pair = 0;
        for (int u = 0; u < model.n; u++) {
            for (int v = 0; v < u; v++) {
                int flag = graph >> pair & 1;
                due(past, "edge(" + u + ", " + v + ", " + flag + ")", x.edge(u, v, flag), model.edge(u, v, flag));
                pair++;
            }
        }
    }

    /** Every chain that is not refused, each on an object of its own. */
    private static void everyChain(int n, int graph) {
        for (int v = 0; v < n; v++) {
            for (int step = 1; step <= 11; step++) {
                for (int count = 1; count <= 12 && wrong < 20; count++) {
                    oneChain(n, graph, v, step, count);
                }
            }
        }
    }

    private static void oneChain(int n, int graph, int v, int step, int count) {
        MddBranchBound x = new MddBranchBound(n, 1);
        Model model = new Model(n);
        StringBuilder past = new StringBuilder("new (" + n + ", 1)");
        joinAll(x, model, past, graph);
        due(past, "chain(" + v + ", " + step + ", " + count + ")", x.chain(v, step, count),
                model.chain(v, step, count));
        for (int u = 0; u < n; u++) {
            due(past, "neighbours(" + u + ")", x.neighbours(u), model.neighbours(u));
        }
    }

    private static void due(StringBuilder past, String call, int got, int want) {
        past.append(", ").append(call);
        if (got != want) {
            wrong++;
            System.out.println(past + " answered " + got + ", due is " + want);
        }
    }

    /** Edges as pairs, sets as sorted lists of members. */
    private static final class Model {
        final int n;
        final boolean[][] edges;
        final int[] weights;
        final int[] forced;
        List<TreeSet<Integer>> every = new ArrayList<>();
        List<TreeSet<Integer>> independent = new ArrayList<>();
        List<TreeSet<Integer>> allowed = new ArrayList<>();

        Model(int vertices) {
            n = Math.max(2, Math.min(12, vertices));
            edges = new boolean[n][n];
            weights = new int[n];
            forced = new int[n];
            for (int v = 0; v < n; v++) {
                weights[v] = 1;
            }
        }

        /** Left until sets are asked for, since no object of everyChain asks. */
        void listEvery() {
            every.add(new TreeSet<>());
            for (int v = 0; v < n; v++) {
                List<TreeSet<Integer>> with = new ArrayList<>();
                for (TreeSet<Integer> set : every) {
                    TreeSet<Integer> more = new TreeSet<>(set);
                    more.add(v);
                    with.add(more);
                }
                every.addAll(with);
            }
        }

        boolean bad(int v) {
            return v < 0 || v >= n;
        }

        int edge(int u, int v, int flag) {
            if (bad(u) || bad(v)) {
                return -1;
            }
            if (u == v) {
                return -2;
            }
            int before = edges[u][v] ? 1 : 0;
            edges[u][v] = flag != 0;
            edges[v][u] = flag != 0;
            return before;
        }

        int chain(int v, int step, int count) {
            if (bad(v)) {
                return -1;
            }
            if (step < 1 || step > 11) {
                return -2;
            }
            if (count < 1 || count > 12) {
                return -3;
            }
            for (int i = 0; i < count; i++) {
                int from = (v + i * step) % n;
                int to = (v + (i + 1) * step) % n;
                if (from != to) {
                    edges[from][to] = true;
                    edges[to][from] = true;
                }
            }
            int all = 0;
            for (int u = 0; u < n; u++) {
                for (int w = 0; w < u; w++) {
                    all += edges[u][w] ? 1 : 0;
                }
            }
            return all;
        }

        int weigh(int v, int weight) {
            if (bad(v)) {
                return -1;
            }
            if (weight < 0 || weight > 30) {
                return -2;
            }
            int before = weights[v];
            weights[v] = weight;
            return before;
        }

        int force(int v, int how) {
            if (bad(v)) {
                return -1;
            }
            if (how < 0 || how > 2) {
                return -2;
            }
            int before = forced[v];
            forced[v] = how;
            return before;
        }

        void listSets() {
            if (every.isEmpty()) {
                listEvery();
            }
            independent.clear();
            allowed.clear();
            for (TreeSet<Integer> set : every) {
                if (!isIndependent(set)) {
                    continue;
                }
                independent.add(set);
                boolean fits = true;
                for (int v = 0; v < n; v++) {
                    fits &= forced[v] == 0 || set.contains(v) == (forced[v] == 1);
                }
                if (fits) {
                    allowed.add(set);
                }
            }
        }

        boolean isIndependent(TreeSet<Integer> set) {
            for (int u : set) {
                for (int v : set) {
                    if (edges[u][v]) {
                        return false;
                    }
                }
            }
            return true;
        }

        boolean isCover(TreeSet<Integer> set) {
            for (int u = 0; u < n; u++) {
                for (int v = 0; v < n; v++) {
                    if (edges[u][v] && !set.contains(u) && !set.contains(v)) {
                        return false;
                    }
                }
            }
            return true;
        }

        int number(TreeSet<Integer> set) {
            int sum = 0;
            for (int v : set) {
                sum += 1 << v;
            }
            return sum;
        }

        int weight(TreeSet<Integer> set) {
            int sum = 0;
            for (int v : set) {
                sum += weights[v];
            }
            return sum;
        }

        int best(List<TreeSet<Integer>> sets) {
            int most = -1;
            for (TreeSet<Integer> set : sets) {
                most = Math.max(most, weight(set));
            }
            return most;
        }

        int bestSet(List<TreeSet<Integer>> sets) {
            int most = best(sets);
            int greatest = -1;
            for (TreeSet<Integer> set : sets) {
                if (weight(set) == most) {
                    greatest = Math.max(greatest, number(set));
                }
            }
            return greatest;
        }

        int bestSets() {
            int most = best(allowed);
            int count = 0;
            for (TreeSet<Integer> set : allowed) {
                count += weight(set) == most ? 1 : 0;
            }
            return count;
        }

        int atLeast(int bound) {
            int count = 0;
            for (TreeSet<Integer> set : allowed) {
                count += weight(set) >= bound ? 1 : 0;
            }
            return count;
        }

        int bestHaving(int v, boolean member) {
            if (bad(v)) {
                return -2;
            }
            List<TreeSet<Integer>> sets = new ArrayList<>();
            for (TreeSet<Integer> set : allowed) {
                if (set.contains(v) == member) {
                    sets.add(set);
                }
            }
            return best(sets);
        }

        int neighbours(int v) {
            if (bad(v)) {
                return -1;
            }
            int sum = 0;
            for (int u = 0; u < n; u++) {
                sum += edges[v][u] ? 1 << u : 0;
            }
            return sum;
        }

        int alpha() {
            int most = 0;
            for (TreeSet<Integer> set : independent) {
                most = Math.max(most, set.size());
            }
            return most;
        }

        int leastCover() {
            int fewest = n + 1;
            int least = 0;
            for (TreeSet<Integer> set : every) {
                if (set.size() > fewest || !isCover(set)) {
                    continue;
                }
                int number = number(set);
                if (set.size() < fewest || number < least) {
                    fewest = set.size();
                    least = number;
                }
            }
            return least;
        }
    }
}
