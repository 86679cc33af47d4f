import java.util.function.ToIntFunction;

/** Holds an object against a second one that should be in the same state. */
final class Twins {
    private Twins() {
    }

    /** The call is refused with that answer and changes nothing, with free places, without, and after drops. */
    static void refused(String name, int edges, ToIntFunction<TreeSlack> call, int answer) {
        TreeSlack x = Graphs.mixed(edges);
        Checks.due(name, call.applyAsInt(x), answer);
        same(name, x, Graphs.mixed(edges));
        TreeSlack y = Graphs.mixedAfterDrops(edges);
        Checks.due(name + " after drops", call.applyAsInt(y), answer);
        same(name + " after drops", y, Graphs.mixed(edges));
    }

    /**
     * Uses both up: everything that can be asked is asked, then all edges are turned on and dropped.
     * Weights and switches are read first, by changes that are taken back, since a question that
     * changed them would change them in both.
     */
    static void same(String when, TreeSlack x, TreeSlack twin) {
        String then = when + ", then ";
        for (int edge = 0; edge < 12; edge++) {
            sameWeight(then, x, twin, edge);
            sameSwitch(then, x, twin, edge);
        }
        sameWhole(then, x, twin);
        for (int edge = 0; edge < 12; edge++) {
            sameOfEdge(then, x, twin, edge);
        }
        for (int edge = 0; edge < 12; edge++) {
            Checks.due(then + "turn(" + edge + ", true)", x.turn(edge, true), twin.turn(edge, true));
        }
        sameWhole(then + "all on, ", x, twin);
        Checks.due(then + "edge(0, 3, 6)", x.edge(0, 3, 6), twin.edge(0, 3, 6));
        for (int drop = 0; drop < 13; drop++) {
            Checks.due(then + "trees()", x.trees(), twin.trees());
            Checks.due(then + "cost()", x.cost(), twin.cost());
            Checks.due(then + "drop()", x.drop(), twin.drop());
        }
    }

    private static void sameWeight(String then, TreeSlack x, TreeSlack twin, int edge) {
        int weight = x.weigh(edge, 0);
        int due = twin.weigh(edge, 0);
        Checks.due(then + "weigh(" + edge + ", 0)", weight, due);
        x.weigh(edge, weight);
        twin.weigh(edge, due);
    }

    private static void sameSwitch(String then, TreeSlack x, TreeSlack twin, int edge) {
        int was = x.turn(edge, false);
        int due = twin.turn(edge, false);
        Checks.due(then + "turn(" + edge + ", false)", was, due);
        x.turn(edge, was == 1);
        twin.turn(edge, due == 1);
    }

    private static void sameWhole(String then, TreeSlack x, TreeSlack twin) {
        Checks.due(then + "cost()", x.cost(), twin.cost());
        Checks.due(then + "cheapest()", x.cheapest(), twin.cheapest());
        Checks.due(then + "trees()", x.trees(), twin.trees());
        Checks.due(then + "nextCost()", x.nextCost(), twin.nextCost());
        Checks.due(then + "bottleneck()", x.bottleneck(), twin.bottleneck());
    }

    private static void sameOfEdge(String then, TreeSlack x, TreeSlack twin, int edge) {
        String of = "(" + edge + ")";
        Checks.due(then + "inSome" + of, x.inSome(edge), twin.inSome(edge));
        Checks.due(then + "inAll" + of, x.inAll(edge), twin.inAll(edge));
        Checks.due(then + "costWith" + of, x.costWith(edge), twin.costWith(edge));
        Checks.due(then + "costWithout" + of, x.costWithout(edge), twin.costWithout(edge));
        Checks.due(then + "slack" + of, x.slack(edge), twin.slack(edge));
    }
}
