/** For each promise of the document: ordinary inputs, the edges it names, and wrong inputs. */
public final class PromisesTest {
    private static int wrong = 0;
    private static int promise = 0;

    private static void due(String call, int got, int want) {
        if (got != want) {
            wrong++;
            System.out.println("promise " + promise + ": " + call + " answered " + got + ", due is " + want);
        }
    }

    public static void main(String[] args) {
        promise = 1;
        newObject();
        promise = 2;
        vertices();
        promise = 3;
        edge();
        promise = 4;
        chain();
        chainRefusals();
        promise = 5;
        weigh();
        promise = 6;
        force();
        promise = 7;
        neighbours();
        promise = 8;
        possible();
        promise = 9;
        best();
        promise = 10;
        bestSet();
        promise = 11;
        bestWith();
        promise = 12;
        bestWithout();
        promise = 13;
        allowedSets();
        promise = 14;
        bestSets();
        promise = 15;
        atLeast();
        promise = 16;
        alpha();
        promise = 17;
        leastCover();
        System.out.println(wrong == 0 ? "all answers are as due" : wrong + " answers are not as due");
        if (wrong != 0) {
            System.exit(1);
        }
    }

    /** The path 0 - 1 - 2 - 3 with the weights 4, 7, 5, 1. */
    private static MddBranchBound path() {
        MddBranchBound x = new MddBranchBound(4, 3);
        x.chain(0, 1, 3);
        x.weigh(0, 4);
        x.weigh(1, 7);
        x.weigh(2, 5);
        return x;
    }

    private static void newObject() {
        int[] given = {Integer.MIN_VALUE, -1, 0, 1, 2, 3, 11, 12, 13, Integer.MAX_VALUE};
        int[] kept = {2, 2, 2, 2, 2, 3, 11, 12, 12, 12};
        int[] widths = {Integer.MIN_VALUE, -1, 0, 1, 2, 15, 16, 17, Integer.MAX_VALUE};
        for (int i = 0; i < given.length; i++) {
            for (int width : widths) {
                String made = "new (" + given[i] + ", " + width + ") ";
                MddBranchBound x = new MddBranchBound(given[i], width);
                int n = kept[i];
                due(made + "vertices()", x.vertices(), n);
                due(made + "bestSet()", x.bestSet(), (1 << n) - 1);
                due(made + "best()", x.best(), n);
                due(made + "allowedSets()", x.allowedSets(), 1 << n);
                for (int v = 0; v < n; v++) {
                    due(made + "neighbours(" + v + ")", x.neighbours(v), 0);
                    due(made + "force(" + v + ", 0)", x.force(v, MddBranchBound.FREE), 0);
                    due(made + "weigh(" + v + ", 1)", x.weigh(v, 1), 1);
                }
                due(made + "neighbours(n)", x.neighbours(n), -1);
            }
        }
        for (int width : widths) {
            MddBranchBound x = new MddBranchBound(12, width);
            x.chain(0, 1, 12);
            x.weigh(5, 9);
            due("width " + width + " bestSet()", x.bestSet(), 0xAAA);
            due("width " + width + " best()", x.best(), 14);
            due("width " + width + " allowedSets()", x.allowedSets(), 322);
        }
        due("FREE", MddBranchBound.FREE, 0);
        due("IN", MddBranchBound.IN, 1);
        due("OUT", MddBranchBound.OUT, 2);
    }

    private static void vertices() {
        for (int n = 2; n <= 12; n++) {
            MddBranchBound x = new MddBranchBound(n, 1);
            due("vertices()", x.vertices(), n);
            x.chain(0, 1, 12);
            x.force(1, MddBranchBound.OUT);
            due("vertices() later", x.vertices(), n);
        }
    }

    private static void edge() {
        MddBranchBound x = new MddBranchBound(5, 1);
        due("edge(1, 4, 1)", x.edge(1, 4, 1), 0);
        due("edge(4, 1, 1)", x.edge(4, 1, 1), 1);
        due("neighbours(1)", x.neighbours(1), 16);
        due("neighbours(4)", x.neighbours(4), 2);
        due("edge(4, 1, 0)", x.edge(4, 1, 0), 1);
        due("edge(1, 4, 0)", x.edge(1, 4, 0), 0);
        due("neighbours(1) parted", x.neighbours(1), 0);
        due("neighbours(4) parted", x.neighbours(4), 0);
        due("edge(0, 2, -1)", x.edge(0, 2, -1), 0);
        due("edge(0, 3, MIN)", x.edge(0, 3, Integer.MIN_VALUE), 0);
        due("edge(0, 4, 256)", x.edge(0, 4, 256), 0);
        due("neighbours(0)", x.neighbours(0), 28);
        due("edge(0, 3, 0)", x.edge(0, 3, 0), 1);
        due("neighbours(0) without 3", x.neighbours(0), 20);
        due("edge(-1, 0, 1)", x.edge(-1, 0, 1), -1);
        due("edge(0, -1, 1)", x.edge(0, -1, 1), -1);
        due("edge(5, 0, 1)", x.edge(5, 0, 1), -1);
        due("edge(0, 5, 1)", x.edge(0, 5, 1), -1);
        due("edge(5, 5, 1)", x.edge(5, 5, 1), -1);
        due("edge(-1, -1, 0)", x.edge(-1, -1, 0), -1);
        due("edge(MIN, MAX, 0)", x.edge(Integer.MIN_VALUE, Integer.MAX_VALUE, 0), -1);
        due("edge(32, 2, 0)", x.edge(32, 2, 0), -1);
        due("edge(2, 2, 1)", x.edge(2, 2, 1), -2);
        due("edge(0, 0, 0)", x.edge(0, 0, 0), -2);
        due("neighbours(0) after refusals", x.neighbours(0), 20);
        due("neighbours(2) after refusals", x.neighbours(2), 1);
    }

    private static void chain() {
        MddBranchBound x = new MddBranchBound(5, 1);
        due("chain(3, 1, 1)", x.chain(3, 1, 1), 1);
        due("chain(3, 1, 3)", x.chain(3, 1, 3), 3);
        due("neighbours(0)", x.neighbours(0), 18);
        due("neighbours(2)", x.neighbours(2), 0);
        due("chain(0, 1, 12)", x.chain(0, 1, 12), 5);
        due("chain(0, 5, 12), both ends the same", x.chain(0, 5, 12), 5);
        due("chain(4, 10, 1), both ends the same", x.chain(4, 10, 1), 5);
        due("chain(1, 11, 2), as step 1", x.chain(1, 11, 2), 5);
        due("chain(1, 7, 1), as step 2", x.chain(1, 7, 1), 6);
        due("neighbours(1)", x.neighbours(1), 13);
        due("chain(0, 2, 12)", x.chain(0, 2, 12), 10);
        due("edge(0, 3, 0)", x.edge(0, 3, 0), 1);
        due("chain(0, 5, 1), one edge less", x.chain(0, 5, 1), 9);

        MddBranchBound two = new MddBranchBound(2, 1);
        due("n = 2: chain(0, 2, 12)", two.chain(0, 2, 12), 0);
        due("n = 2: chain(1, 11, 1)", two.chain(1, 11, 1), 1);
        due("n = 2: chain(1, 1, 12)", two.chain(1, 1, 12), 1);

        MddBranchBound twelve = new MddBranchBound(12, 1);
        due("n = 12: chain(11, 11, 12)", twelve.chain(11, 11, 12), 12);
        due("n = 12: chain(0, 6, 12)", twelve.chain(0, 6, 12), 13);
        due("n = 12: neighbours(6)", twelve.neighbours(6), 1 | 1 << 5 | 1 << 7);
    }

    private static void chainRefusals() {
        MddBranchBound x = new MddBranchBound(5, 1);
        x.edge(0, 1, 1);
        due("chain(5, 1, 1)", x.chain(5, 1, 1), -1);
        due("chain(-1, 1, 1)", x.chain(-1, 1, 1), -1);
        due("chain(-1, 0, 0)", x.chain(-1, 0, 0), -1);
        due("chain(MAX, 12, 13)", x.chain(Integer.MAX_VALUE, 12, 13), -1);
        due("chain(0, 0, 1)", x.chain(0, 0, 1), -2);
        due("chain(0, -1, 1)", x.chain(0, -1, 1), -2);
        due("chain(0, 12, 13)", x.chain(0, 12, 13), -2);
        due("chain(0, MAX, 1)", x.chain(0, Integer.MAX_VALUE, 1), -2);
        due("chain(0, MIN, 0)", x.chain(0, Integer.MIN_VALUE, 0), -2);
        due("chain(0, 1, 0)", x.chain(0, 1, 0), -3);
        due("chain(0, 1, 13)", x.chain(0, 1, 13), -3);
        due("chain(0, 11, -1)", x.chain(0, 11, -1), -3);
        due("chain(0, 5, MAX)", x.chain(0, 5, Integer.MAX_VALUE), -3);
        due("chain(0, 5, 1) after refusals", x.chain(0, 5, 1), 1);
    }

    private static void weigh() {
        MddBranchBound x = new MddBranchBound(3, 1);
        due("weigh(0, 30)", x.weigh(0, 30), 1);
        due("weigh(0, 0)", x.weigh(0, 0), 30);
        due("weigh(0, 12)", x.weigh(0, 12), 0);
        due("weigh(2, 5)", x.weigh(2, 5), 1);
        due("weigh(3, 5)", x.weigh(3, 5), -1);
        due("weigh(-1, 5)", x.weigh(-1, 5), -1);
        due("weigh(3, 31)", x.weigh(3, 31), -1);
        due("weigh(MIN, -1)", x.weigh(Integer.MIN_VALUE, -1), -1);
        due("weigh(0, 31)", x.weigh(0, 31), -2);
        due("weigh(0, -1)", x.weigh(0, -1), -2);
        due("weigh(2, MAX)", x.weigh(2, Integer.MAX_VALUE), -2);
        due("weigh(2, MIN)", x.weigh(2, Integer.MIN_VALUE), -2);
        due("best() after refusals", x.best(), 18);
        due("weigh(0, 12) again", x.weigh(0, 12), 12);
        due("weigh(1, 1)", x.weigh(1, 1), 1);
        due("weigh(2, 5) again", x.weigh(2, 5), 5);
    }

    private static void force() {
        MddBranchBound x = new MddBranchBound(3, 1);
        int[] orders = {0, 1, 1, 2, 2, 0, 2, 1, 0};
        int before = 0;
        for (int how : orders) {
            due("force(1, " + how + ")", x.force(1, how), before);
            due("bestWith(1) if " + how, x.bestWith(1), how == MddBranchBound.OUT ? -1 : 3);
            due("bestWithout(1) if " + how, x.bestWithout(1), how == MddBranchBound.IN ? -1 : 2);
            before = how;
        }
        x.force(2, MddBranchBound.IN);
        x.force(0, MddBranchBound.OUT);
        due("force(3, 1)", x.force(3, 1), -1);
        due("force(-1, 1)", x.force(-1, 1), -1);
        due("force(3, 3)", x.force(3, 3), -1);
        due("force(32, 2)", x.force(32, 2), -1);
        due("force(0, 3)", x.force(0, 3), -2);
        due("force(0, -1)", x.force(0, -1), -2);
        due("force(2, MAX)", x.force(2, Integer.MAX_VALUE), -2);
        due("force(2, MIN)", x.force(2, Integer.MIN_VALUE), -2);
        due("allowedSets() after refusals", x.allowedSets(), 2);
        due("bestSet() after refusals", x.bestSet(), 6);
        due("force(2, 0)", x.force(2, 0), 1);
        due("force(0, 0)", x.force(0, 0), 2);
        due("force(1, 0)", x.force(1, 0), 0);
    }

    private static void neighbours() {
        MddBranchBound x = new MddBranchBound(12, 1);
        x.edge(11, 0, 1);
        x.edge(11, 10, 1);
        x.edge(3, 11, 1);
        x.force(11, MddBranchBound.OUT);
        due("neighbours(11)", x.neighbours(11), 1 | 8 | 1024);
        due("neighbours(0)", x.neighbours(0), 2048);
        due("neighbours(1)", x.neighbours(1), 0);
        due("neighbours(12)", x.neighbours(12), -1);
        due("neighbours(-1)", x.neighbours(-1), -1);
        due("neighbours(MIN)", x.neighbours(Integer.MIN_VALUE), -1);
        due("neighbours(MAX)", x.neighbours(Integer.MAX_VALUE), -1);
    }

    private static void possible() {
        MddBranchBound x = path();
        due("possible()", x.possible(), 1);
        x.force(0, MddBranchBound.IN);
        x.force(2, MddBranchBound.IN);
        due("possible() with 0, 2 in", x.possible(), 1);
        x.force(3, MddBranchBound.IN);
        due("possible() with 0, 2, 3 in", x.possible(), 0);
        x.edge(3, 2, 0);
        due("possible() with 2 - 3 gone", x.possible(), 1);
        x.edge(3, 2, 1);
        due("possible() with 2 - 3 back", x.possible(), 0);
        x.force(2, MddBranchBound.OUT);
        due("possible() with 2 out", x.possible(), 1);
        for (int v = 0; v < 3; v++) {
            MddBranchBound ends = path();
            ends.force(v, MddBranchBound.IN);
            ends.force(v + 1, MddBranchBound.IN);
            due("possible() with the ends of " + v + " - " + (v + 1) + " in", ends.possible(), 0);
        }
        MddBranchBound out = path();
        for (int v = 0; v < 4; v++) {
            out.force(v, MddBranchBound.OUT);
        }
        due("possible() with all out", out.possible(), 1);
    }

    private static void best() {
        MddBranchBound x = path();
        due("best()", x.best(), 9);
        x.force(3, MddBranchBound.IN);
        due("best() with 3 in", x.best(), 8);
        x.force(1, MddBranchBound.OUT);
        due("best() with 1 out", x.best(), 5);
        x.force(2, MddBranchBound.IN);
        due("best() with 2, 3 in", x.best(), -1);
        MddBranchBound out = path();
        for (int v = 0; v < 4; v++) {
            out.force(v, MddBranchBound.OUT);
        }
        due("best() with all out", out.best(), 0);
        MddBranchBound heavy = new MddBranchBound(12, 16);
        for (int v = 0; v < 12; v++) {
            heavy.weigh(v, 30);
        }
        due("best() at its greatest", heavy.best(), 360);
    }

    private static void bestSet() {
        MddBranchBound x = path();
        due("bestSet()", x.bestSet(), 5);
        x.weigh(3, 2);
        due("bestSet(), {0, 2} and {1, 3} of weight 9", x.bestSet(), 10);
        x.force(1, MddBranchBound.OUT);
        due("bestSet() with 1 out", x.bestSet(), 5);
        x.force(0, MddBranchBound.IN);
        x.force(1, MddBranchBound.IN);
        due("bestSet() with 0, 1 in", x.bestSet(), -1);
        MddBranchBound light = new MddBranchBound(3, 1);
        light.weigh(0, 0);
        light.weigh(2, 0);
        due("bestSet(), weight 0 makes the number greater", light.bestSet(), 7);
        light.force(0, MddBranchBound.OUT);
        light.force(1, MddBranchBound.OUT);
        light.force(2, MddBranchBound.OUT);
        due("bestSet(), empty", light.bestSet(), 0);
    }

    private static void bestWith() {
        MddBranchBound x = path();
        due("bestWith(0)", x.bestWith(0), 9);
        due("bestWith(1)", x.bestWith(1), 8);
        due("bestWith(2)", x.bestWith(2), 9);
        due("bestWith(3)", x.bestWith(3), 8);
        x.force(1, MddBranchBound.OUT);
        due("bestWith(1), out", x.bestWith(1), -1);
        due("bestWith(3) with 1 out", x.bestWith(3), 5);
        x.force(0, MddBranchBound.IN);
        x.force(1, MddBranchBound.FREE);
        due("bestWith(1) with 0 in", x.bestWith(1), -1);
        due("bestWith(0), in", x.bestWith(0), 9);
        due("force(1, 0), still free", x.force(1, MddBranchBound.FREE), 0);
        x.force(1, MddBranchBound.IN);
        due("bestWith(3), impossible", x.bestWith(3), -1);
        due("bestWith(4)", x.bestWith(4), -2);
        due("bestWith(-1)", x.bestWith(-1), -2);
        due("bestWith(32)", x.bestWith(32), -2);
        due("bestWith(MAX)", x.bestWith(Integer.MAX_VALUE), -2);
        due("bestWith(MIN)", x.bestWith(Integer.MIN_VALUE), -2);
    }

    private static void bestWithout() {
        MddBranchBound x = path();
        due("bestWithout(0)", x.bestWithout(0), 8);
        due("bestWithout(1)", x.bestWithout(1), 9);
        due("bestWithout(2)", x.bestWithout(2), 8);
        due("bestWithout(3)", x.bestWithout(3), 9);
        x.force(0, MddBranchBound.IN);
        due("bestWithout(0), in", x.bestWithout(0), -1);
        due("bestWithout(2) with 0 in", x.bestWithout(2), 5);
        due("force(2, 2), free before", x.force(2, MddBranchBound.OUT), 0);
        due("bestWithout(2), out", x.bestWithout(2), 5);
        x.force(1, MddBranchBound.IN);
        due("bestWithout(3), impossible", x.bestWithout(3), -1);
        due("bestWithout(4)", x.bestWithout(4), -2);
        due("bestWithout(-1)", x.bestWithout(-1), -2);
        due("bestWithout(32)", x.bestWithout(32), -2);
        due("bestWithout(MAX)", x.bestWithout(Integer.MAX_VALUE), -2);
        due("bestWithout(MIN)", x.bestWithout(Integer.MIN_VALUE), -2);
    }

    private static void allowedSets() {
        MddBranchBound x = path();
        due("allowedSets()", x.allowedSets(), 8);
        x.force(3, MddBranchBound.OUT);
        due("allowedSets() with 3 out", x.allowedSets(), 5);
        x.force(1, MddBranchBound.IN);
        due("allowedSets() with 1 in", x.allowedSets(), 1);
        x.force(2, MddBranchBound.IN);
        due("allowedSets() with 1, 2 in", x.allowedSets(), 0);
        MddBranchBound light = new MddBranchBound(12, 1);
        for (int v = 0; v < 12; v++) {
            light.weigh(v, 0);
        }
        due("allowedSets() of weight 0", light.allowedSets(), 4096);
    }

    private static void bestSets() {
        MddBranchBound x = path();
        due("bestSets()", x.bestSets(), 1);
        x.weigh(3, 2);
        due("bestSets(), {0, 2} and {1, 3}", x.bestSets(), 2);
        x.force(0, MddBranchBound.OUT);
        due("bestSets() with 0 out", x.bestSets(), 1);
        x.force(1, MddBranchBound.IN);
        x.force(2, MddBranchBound.IN);
        due("bestSets(), impossible", x.bestSets(), 0);
        MddBranchBound light = new MddBranchBound(12, 1);
        for (int v = 0; v < 12; v++) {
            light.weigh(v, 0);
        }
        due("bestSets(), all of weight 0", light.bestSets(), 4096);
    }

    private static void atLeast() {
        MddBranchBound x = path();
        // The allowed sets weigh 0, 1, 4, 5, 5, 7, 8 and 9.
        int[] bounds = {Integer.MIN_VALUE, -1, 0, 1, 2, 4, 5, 6, 7, 8, 9, 10, Integer.MAX_VALUE};
        int[] counts = {8, 8, 8, 7, 6, 6, 5, 3, 3, 2, 1, 0, 0};
        for (int i = 0; i < bounds.length; i++) {
            due("atLeast(" + bounds[i] + ")", x.atLeast(bounds[i]), counts[i]);
        }
        x.force(2, MddBranchBound.OUT);
        due("atLeast(5) with 2 out", x.atLeast(5), 3);
        x.force(0, MddBranchBound.IN);
        due("atLeast(5) with 0 in", x.atLeast(5), 1);
        x.force(1, MddBranchBound.IN);
        due("atLeast(MIN), impossible", x.atLeast(Integer.MIN_VALUE), 0);
    }

    private static void alpha() {
        MddBranchBound x = new MddBranchBound(7, 1);
        due("alpha(), no edge", x.alpha(), 7);
        x.chain(0, 1, 7);
        due("alpha(), ring of 7", x.alpha(), 3);
        x.weigh(0, 30);
        x.weigh(2, 0);
        x.force(0, MddBranchBound.IN);
        x.force(1, MddBranchBound.IN);
        x.force(4, MddBranchBound.OUT);
        x.force(5, MddBranchBound.OUT);
        due("alpha(), weights and forcing play no part", x.alpha(), 3);
        x.chain(0, 2, 7);
        x.chain(0, 3, 7);
        due("alpha(), all joined", x.alpha(), 1);
    }

    private static void leastCover() {
        MddBranchBound x = new MddBranchBound(5, 1);
        due("leastCover(), no edge", x.leastCover(), 0);
        x.edge(4, 2, 1);
        due("leastCover(), 2 - 4", x.leastCover(), 4);
        x.edge(4, 1, 1);
        due("leastCover(), fewest before least number", x.leastCover(), 16);
        x.weigh(4, 30);
        x.force(4, MddBranchBound.OUT);
        x.force(2, MddBranchBound.IN);
        x.force(1, MddBranchBound.IN);
        due("leastCover(), weights and forcing play no part", x.leastCover(), 16);
        x.edge(0, 3, 1);
        due("leastCover(), 0 - 3 too", x.leastCover(), 17);
        x.chain(0, 1, 5);
        x.chain(0, 2, 5);
        due("leastCover(), all joined", x.leastCover(), 15);
        MddBranchBound ring = new MddBranchBound(12, 1);
        ring.chain(0, 1, 12);
        due("leastCover(), ring of 12", ring.leastCover(), 0x555);
    }
}
