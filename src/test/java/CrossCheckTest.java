/** Long runs of all calls, wrong arguments among them, each answer held against Reference. */
public final class CrossCheckTest {
    private static final int RUNS = 60;
    private static final int CALLS = 512;
    private static final int[] STRANGE = {-1, 7, 12, 13, 21, 32, -32, Integer.MIN_VALUE, Integer.MAX_VALUE};

    private static long seed = 20261115L;

    public static void main(String[] args) {
        for (int run = 0; run < RUNS; run++) {
            TreeSlack x = new TreeSlack();
            Reference r = new Reference();
            // Narrow weights make ties, wide ones make great slacks.
            int widest = run % 3 == 0 ? 2 : run % 3 == 1 ? 6 : 20;
            for (int call = 0; call < CALLS; call++) {
                String at = "run " + run + ", call " + call + ": ";
                if (call < 12 || below(4) == 0) {
                    change(at, x, r, widest, call < 12);
                } else {
                    ask(at, x, r);
                }
            }
        }
        Checks.finish();
    }

    /** A generator of fixed numbers, so that each run of the test makes the same calls. */
    private static int below(int bound) {
        seed = seed * 6364136223846793005L + 1442695040888963407L;
        return (int) ((seed >>> 33) % bound);
    }

    private static int mostly(int bound) {
        return below(16) == 0 ? STRANGE[below(STRANGE.length)] : below(bound);
    }

    private static void change(String at, TreeSlack x, Reference r, int widest, boolean atStart) {
        int kind = atStart ? 0 : below(20);
        int edge = mostly(12);
        int weight = mostly(widest + 1);
        if (kind < 8) {
            int u = mostly(7);
            int v = mostly(7);
            String call = "edge(" + u + ", " + v + ", " + weight + ")";
            Checks.due(at + call, x.edge(u, v, weight), r.edge(u, v, weight));
        } else if (kind < 13) {
            String call = "weigh(" + edge + ", " + weight + ")";
            Checks.due(at + call, x.weigh(edge, weight), r.weigh(edge, weight));
        } else if (kind < 18) {
            boolean on = below(4) != 0;
            String call = "turn(" + edge + ", " + on + ")";
            Checks.due(at + call, x.turn(edge, on), r.turn(edge, on));
        } else {
            Checks.due(at + "drop()", x.drop(), r.drop());
        }
    }

    private static void ask(String at, TreeSlack x, Reference r) {
        int edge = mostly(12);
        String of = "(" + edge + ")";
        switch (below(11)) {
            case 0 -> Checks.due(at + "cost()", x.cost(), r.cost());
            case 1 -> Checks.due(at + "cheapest()", x.cheapest(), r.cheapest());
            case 2 -> Checks.due(at + "trees()", x.trees(), r.trees());
            case 3 -> Checks.due(at + "inSome" + of, x.inSome(edge), r.inSome(edge));
            case 4 -> Checks.due(at + "inAll" + of, x.inAll(edge), r.inAll(edge));
            case 5 -> Checks.due(at + "costWith" + of, x.costWith(edge), r.costWith(edge));
            case 6 -> Checks.due(at + "costWithout" + of, x.costWithout(edge), r.costWithout(edge));
            case 7 -> Checks.due(at + "nextCost()", x.nextCost(), r.nextCost());
            case 8 -> Checks.due(at + "bottleneck()", x.bottleneck(), r.bottleneck());
            default -> Checks.due(at + "slack" + of, x.slack(edge), r.slack(edge));
        }
    }
}
