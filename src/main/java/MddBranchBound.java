/** Sets of mutually unconnected vertices of greatest weight. */
public final class MddBranchBound {
    public static final int FREE = 0;
    public static final int IN = 1;
    public static final int OUT = 2;

    private static final int LEAST_VERTICES = 2;
    private static final int MOST_VERTICES = 12;
    private static final int FIRST_WEIGHT = 1;
    private static final int MOST_WEIGHT = 30;
    private static final int MOST_STEP = 11;
    private static final int MOST_COUNT = 12;
    private static final int NONE = -1;

    private final int[] joined = new int[MOST_VERTICES];
    private final int[] weights = new int[MOST_VERTICES];
    private final int n;
    private int forcedIn;
    private int forcedOut;

    // The width is not kept: no answer may depend on it, and every set is looked at anyway.
    public MddBranchBound(int vertices, int width) {
        n = clamp(vertices, LEAST_VERTICES, MOST_VERTICES);
        for (int v = 0; v < MOST_VERTICES; v++) {
            weights[v] = FIRST_WEIGHT;
        }
    }

    public int vertices() {
        return n;
    }

    public int edge(int u, int v, int flag) {
        if (!isGood(u) || !isGood(v)) {
            return -1;
        }
        if (u == v) {
            return -2;
        }
        int before = has(joined[u], v) ? 1 : 0;
        if (flag != 0) {
            join(u, v);
        } else {
            part(u, v);
        }
        return before;
    }

    public int chain(int v, int step, int count) {
        if (!isGood(v)) {
            return -1;
        }
        if (step < 1 || step > MOST_STEP) {
            return -2;
        }
        if (count < 1 || count > MOST_COUNT) {
            return -3;
        }
        int from = v;
        for (int made = 0; made < count; made++) {
            int to = (from + step) % n;
            if (to != from) {
                join(from, to);
            }
            from = to;
        }
        return edgeCount();
    }

    public int weigh(int v, int weight) {
        if (!isGood(v)) {
            return -1;
        }
        if (weight < 0 || weight > MOST_WEIGHT) {
            return -2;
        }
        int before = weights[v];
        weights[v] = weight;
        return before;
    }

    public int force(int v, int how) {
        if (!isGood(v)) {
            return -1;
        }
        if (how < FREE || how > OUT) {
            return -2;
        }
        int before = forcingOf(v);
        int single = 1 << v;
        forcedIn = how == IN ? forcedIn | single : forcedIn & ~single;
        forcedOut = how == OUT ? forcedOut | single : forcedOut & ~single;
        return before;
    }

    public int neighbours(int v) {
        return isGood(v) ? joined[v] : -1;
    }

    // Taking vertices away never breaks independence, so the forced ones alone decide.
    public int possible() {
        return isAllowed(forcedIn) ? 1 : 0;
    }

    public int best() {
        int set = bestAllowed(0, 0);
        return weightOrNone(set);
    }

    public int bestSet() {
        return bestAllowed(0, 0);
    }

    public int bestWith(int v) {
        if (!isGood(v)) {
            return -2;
        }
        int set = bestAllowed(1 << v, 0);
        return weightOrNone(set);
    }

    public int bestWithout(int v) {
        if (!isGood(v)) {
            return -2;
        }
        int set = bestAllowed(0, 1 << v);
        return weightOrNone(set);
    }

    // No weight is below 0, so the bound 0 leaves no allowed set out.
    public int allowedSets() {
        return countAllowed(0);
    }

    // No allowed set is above the best weight, so "at least" that weight means exactly it.
    public int bestSets() {
        int set = bestAllowed(0, 0);
        int weight = weightOrNone(set);
        return countAllowed(weight);
    }

    public int atLeast(int bound) {
        return countAllowed(bound);
    }

    public int alpha() {
        int most = 0;
        for (int set = 0; set < 1 << n; set++) {
            if (isIndependent(set)) {
                int size = sizeOf(set);
                most = size > most ? size : most;
            }
        }
        return most;
    }

    // A set has an end of every edge exactly if no edge lies wholly among the other vertices.
    public int leastCover() {
        int all = (1 << n) - 1;
        int least = all;
        int fewest = n;
        for (int set = 0; set < all; set++) {
            int size = sizeOf(set);
            // Sets come in rising order, so of equal sizes the first has the least number.
            if (size < fewest && isIndependent(all & ~set)) {
                least = set;
                fewest = size;
            }
        }
        return least;
    }

    private static int clamp(int value, int least, int most) {
        if (value < least) {
            return least;
        }
        return value > most ? most : value;
    }

    private static boolean has(int set, int v) {
        return (set >> v & 1) != 0;
    }

    private boolean isGood(int v) {
        return v >= 0 && v < n;
    }

    private void join(int u, int v) {
        joined[u] |= 1 << v;
        joined[v] |= 1 << u;
    }

    private void part(int u, int v) {
        joined[u] &= ~(1 << v);
        joined[v] &= ~(1 << u);
    }

    // Every edge is noted at both of its ends, hence the half.
    private int edgeCount() {
        int ends = 0;
        for (int v = 0; v < n; v++) {
            ends += sizeOf(joined[v]);
        }
        return ends / 2;
    }

    private int forcingOf(int v) {
        if (has(forcedIn, v)) {
            return IN;
        }
        return has(forcedOut, v) ? OUT : FREE;
    }

    private int sizeOf(int set) {
        int size = 0;
        for (int v = 0; v < n; v++) {
            size += set >> v & 1;
        }
        return size;
    }

    private int weightOf(int set) {
        int weight = 0;
        for (int v = 0; v < n; v++) {
            if (has(set, v)) {
                weight += weights[v];
            }
        }
        return weight;
    }

    private int weightOrNone(int set) {
        return set == NONE ? NONE : weightOf(set);
    }

    private boolean isIndependent(int set) {
        for (int v = 0; v < n; v++) {
            if (has(set, v) && (joined[v] & set) != 0) {
                return false;
            }
        }
        return true;
    }

    private boolean isAllowed(int set) {
        return (set & forcedIn) == forcedIn && (set & forcedOut) == 0 && isIndependent(set);
    }

    private int bestAllowed(int with, int without) {
        int best = NONE;
        int bestWeight = NONE;
        for (int set = 0; set < 1 << n; set++) {
            if ((set & with) == with && (set & without) == 0 && isAllowed(set)) {
                int weight = weightOf(set);
                // Sets come in rising order, so of equal weights the later one is better.
                if (weight >= bestWeight) {
                    best = set;
                    bestWeight = weight;
                }
            }
        }
        return best;
    }

    private int countAllowed(int bound) {
        int count = 0;
        for (int set = 0; set < 1 << n; set++) {
            if (isAllowed(set) && weightOf(set) >= bound) {
                count++;
            }
        }
        return count;
    }
}
