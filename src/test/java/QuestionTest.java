/** Promises 6 to 15, with answers worked out by hand. */
public final class QuestionTest {
    public static void main(String[] args) {
        oneTree();
        ring();
        doubledEqual();
        doubledApart();
        heaviest();
        lightest();
        noTree();
        enoughEdgesButApart();
        offEdges();
        slackUpToTwenty();
        slackOfTies();
        nextCostSkipsTies();
        bottleneckBelowDearestEdge();
        bottleneckNeedsOnEdges();
        edgesThatDontExist();
        questionsChangeNothing();
        Checks.finish();
    }

    private static void whole(String name, TreeSlack x, int[] want) {
        Checks.due(name + ": cost()", x.cost(), want[0]);
        Checks.due(name + ": cheapest()", x.cheapest(), want[1]);
        Checks.due(name + ": trees()", x.trees(), want[2]);
        Checks.due(name + ": nextCost()", x.nextCost(), want[3]);
        Checks.due(name + ": bottleneck()", x.bottleneck(), want[4]);
    }

    /** want: inSome and inAll as 1 or 0, costWith, costWithout, slack. */
    private static void ofEdge(String name, TreeSlack x, int edge, int[] want) {
        String of = "(" + edge + ")";
        Checks.due(name + ": inSome" + of, x.inSome(edge), want[0] == 1);
        Checks.due(name + ": inAll" + of, x.inAll(edge), want[1] == 1);
        Checks.due(name + ": costWith" + of, x.costWith(edge), want[2]);
        Checks.due(name + ": costWithout" + of, x.costWithout(edge), want[3]);
        Checks.due(name + ": slack" + of, x.slack(edge), want[4]);
    }

    private static void oneTree() {
        TreeSlack x = Graphs.path();
        whole("path", x, new int[] {21, 1, 1, TreeSlack.NO_TREE, 6});
        for (int edge = 0; edge < 6; edge++) {
            ofEdge("path", x, edge, new int[] {1, 1, 21, TreeSlack.NO_TREE, TreeSlack.NO_LIMIT});
        }
    }

    // The ring's seven trees each lack one edge: the weights are 1 2 3 4 5 6 4, together 25.
    private static void ring() {
        TreeSlack x = Graphs.ring();
        whole("ring", x, new int[] {19, 1, 7, 20, 5});
        ofEdge("ring", x, 0, new int[] {1, 1, 19, 24, 5});
        ofEdge("ring", x, 3, new int[] {1, 1, 19, 21, 2});
        ofEdge("ring", x, 4, new int[] {1, 1, 19, 20, 1});
        ofEdge("ring", x, 5, new int[] {0, 0, 20, 19, 0});
        ofEdge("ring", x, 6, new int[] {1, 1, 19, 21, 2});
    }

    private static void doubledEqual() {
        TreeSlack x = Graphs.doubledPath(3, 3);
        whole("doubled, equal", x, new int[] {18, 64, 64, TreeSlack.NO_TREE, 3});
        for (int edge = 0; edge < 12; edge++) {
            ofEdge("doubled, equal", x, edge, new int[] {1, 0, 18, 18, 0});
        }
    }

    private static void doubledApart() {
        TreeSlack x = Graphs.doubledPath(0, 20);
        whole("doubled, apart", x, new int[] {0, 1, 64, 20, 0});
        for (int edge = 0; edge < 12; edge += 2) {
            ofEdge("doubled, apart", x, edge, new int[] {1, 1, 0, 20, 20});
            ofEdge("doubled, apart", x, edge + 1, new int[] {0, 0, 20, 0, 0});
        }
    }

    private static void heaviest() {
        TreeSlack x = Graphs.doubledPath(20, 20);
        whole("all weights 20", x, new int[] {120, 64, 64, TreeSlack.NO_TREE, 20});
        x.weigh(7, 19);
        whole("one weight 19", x, new int[] {119, 32, 64, 120, 20});
        ofEdge("one weight 19", x, 7, new int[] {1, 1, 119, 120, 1});
        ofEdge("one weight 19", x, 6, new int[] {0, 0, 120, 119, 0});
    }

    private static void lightest() {
        TreeSlack x = Graphs.doubledPath(0, 0);
        whole("all weights 0", x, new int[] {0, 64, 64, TreeSlack.NO_TREE, 0});
        ofEdge("all weights 0", x, 11, new int[] {1, 0, 0, 0, 0});
        x.drop();
        ofEdge("all weights 0", x, 10, new int[] {1, 1, 0, TreeSlack.NO_TREE, TreeSlack.NO_LIMIT});
    }

    private static void noTree() {
        TreeSlack x = Graphs.path();
        x.drop();
        whole("five edges", x, new int[] {TreeSlack.NO_TREE, 0, 0, TreeSlack.NO_TREE, TreeSlack.NO_TREE});
        for (int edge = 0; edge < 5; edge++) {
            ofEdge("five edges", x, edge, new int[] {0, 0, TreeSlack.NO_TREE, TreeSlack.NO_TREE, 0});
        }
    }

    private static void enoughEdgesButApart() {
        TreeSlack x = Graphs.doubledPath(1, 2);
        x.drop();
        x.drop();
        x.edge(0, 5, 0);
        x.edge(2, 4, 0);
        whole("vertex 6 apart", x, new int[] {TreeSlack.NO_TREE, 0, 0, TreeSlack.NO_TREE, TreeSlack.NO_TREE});
        for (int edge = 0; edge < 12; edge++) {
            ofEdge("vertex 6 apart", x, edge, new int[] {0, 0, TreeSlack.NO_TREE, TreeSlack.NO_TREE, 0});
        }
    }

    private static void offEdges() {
        TreeSlack x = Graphs.ring();
        x.turn(4, false);
        whole("edge 4 off", x, new int[] {20, 1, 1, TreeSlack.NO_TREE, 6});
        ofEdge("edge 4 off", x, 4, new int[] {0, 0, TreeSlack.NO_TREE, 20, 0});
        ofEdge("edge 4 off", x, 0, new int[] {1, 1, 20, TreeSlack.NO_TREE, TreeSlack.NO_LIMIT});
        x.turn(0, false);
        ofEdge("edges 0 and 4 off", x, 4, new int[] {0, 0, TreeSlack.NO_TREE, TreeSlack.NO_TREE, 0});
    }

    private static void slackUpToTwenty() {
        TreeSlack x = Graphs.ring();
        x.weigh(5, 20);
        x.weigh(0, 18);
        ofEdge("slack up to 20", x, 0, new int[] {1, 1, 36, 38, 2});
        x.weigh(0, 20);
        ofEdge("slack at 20", x, 0, new int[] {1, 0, 38, 38, 0});
        x.turn(5, false);
        ofEdge("slack without end", x, 0, new int[] {1, 1, 38, TreeSlack.NO_TREE, TreeSlack.NO_LIMIT});
    }

    private static void slackOfTies() {
        TreeSlack x = Graphs.ring();
        x.weigh(4, 6);
        whole("tie", x, new int[] {20, 2, 7, 22, 6});
        ofEdge("tie", x, 4, new int[] {1, 0, 20, 20, 0});
        ofEdge("tie", x, 5, new int[] {1, 0, 20, 20, 0});
        ofEdge("tie", x, 3, new int[] {1, 1, 20, 22, 2});
    }

    private static void nextCostSkipsTies() {
        TreeSlack x = Graphs.doubledPath(5, 5);
        x.weigh(11, 9);
        whole("ties", x, new int[] {30, 32, 64, 34, 5});
        x.turn(11, false);
        whole("ties alone", x, new int[] {30, 32, 32, TreeSlack.NO_TREE, 5});
    }

    private static void bottleneckBelowDearestEdge() {
        TreeSlack x = Graphs.doubledPath(2, 19);
        Checks.due("dear edges beside: bottleneck()", x.bottleneck(), 2);
        x.turn(6, false);
        Checks.due("one dear edge needed: bottleneck()", x.bottleneck(), 19);
        x.weigh(7, 13);
        Checks.due("it is 13: bottleneck()", x.bottleneck(), 13);
    }

    private static void bottleneckNeedsOnEdges() {
        TreeSlack x = Graphs.ring();
        x.turn(0, false);
        Checks.due("edge 0 off: bottleneck()", x.bottleneck(), 6);
        x.turn(1, false);
        Checks.due("edges 0 and 1 off: bottleneck()", x.bottleneck(), TreeSlack.NO_TREE);
    }

    private static void edgesThatDontExist() {
        TreeSlack[] objects = {new TreeSlack(), Graphs.path(), Graphs.ring(), Graphs.doubledPath(1, 1)};
        int[] counts = {0, 6, 7, 12};
        for (int i = 0; i < objects.length; i++) {
            int[] bad = {-1, counts[i], counts[i] + 1, 12, 31, 32, 33, -32, Integer.MIN_VALUE, Integer.MAX_VALUE};
            for (int edge : bad) {
                int none = TreeSlack.BAD_EDGE;
                ofEdge(counts[i] + " edges", objects[i], edge, new int[] {0, 0, none, none, none});
            }
        }
        TreeSlack dropped = Graphs.ring();
        dropped.drop();
        ofEdge("dropped", dropped, 6, new int[] {0, 0, -1, -1, -1});
    }

    private static void questionsChangeNothing() {
        TreeSlack x = Graphs.ring();
        x.turn(3, false);
        for (int edge = -1; edge < 13; edge++) {
            x.inSome(edge);
            x.inAll(edge);
            x.costWith(edge);
            x.costWithout(edge);
            x.slack(edge);
            whole("asked", x, new int[] {21, 1, 1, TreeSlack.NO_TREE, 6});
        }
        for (int edge = 0; edge < 7; edge++) {
            int weight = edge < 6 ? edge + 1 : 4;
            Checks.due("asked: weight of " + edge, x.weigh(edge, weight), weight);
            Checks.due("asked: on " + edge, x.turn(edge, true), edge == 3 ? 0 : 1);
        }
        Checks.due("asked: drop()", x.drop(), 6);
    }
}
