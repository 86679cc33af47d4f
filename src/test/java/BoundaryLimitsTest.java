/** The boundary cases of "What it is" and "Terms", a test for each sentence. */
public final class BoundaryLimitsTest {
    private static final int NO_TREE = TreeSlack.NO_TREE;
    private static final int BAD_EDGE = TreeSlack.BAD_EDGE;
    private static final int QUESTIONS = 10;

    public static void main(String[] args) {
        Checks.sentence("seven vertices, 0 to 6", BoundaryLimitsTest::sevenVertices);
        Checks.sentence("up to twelve edges", BoundaryLimitsTest::upToTwelveEdges);
        Checks.sentence("edges numbered from 0", BoundaryLimitsTest::numberedFromZero);
        Checks.sentence("each between two different vertices", BoundaryLimitsTest::differentVertices);
        Checks.sentence("a weight, 0 to 20", BoundaryLimitsTest::weightZeroToTwenty);
        Checks.sentence("512 calls: edge and drop", BoundaryLimitsTest::callsOfEdgeAndDrop);
        Checks.sentence("512 calls: weigh", BoundaryLimitsTest::callsOfWeigh);
        Checks.sentence("512 calls: turn", BoundaryLimitsTest::callsOfTurn);
        Checks.sentence("512 calls: refused ones", BoundaryLimitsTest::callsRefused);
        Checks.sentence("512 calls: questions", BoundaryLimitsTest::callsOfQuestions);
        Checks.sentence("later calls: free, yet none throws", BoundaryLimitsTest::callsPastTheLast);
        Checks.sentence("a tree: six edges, not five", BoundaryLimitsTest::fiveAreNoTree);
        Checks.sentence("a tree: six edges, not seven", BoundaryLimitsTest::sevenAreNoTree);
        Checks.sentence("a tree: edges that are on", BoundaryLimitsTest::offIsInNoTree);
        Checks.sentence("a tree: connects all seven vertices", BoundaryLimitsTest::eachVertexCounts);
        Checks.sentence("a tree: connects, not two parts", BoundaryLimitsTest::twoPartsAreNoTree);
        Checks.sentence("a tree: edges that stand in any order", BoundaryLimitsTest::anyOrderOfEdges);
        Checks.sentence("a tree's cost: the least and the greatest sum", BoundaryLimitsTest::leastAndGreatestCost);
        Checks.sentence("cheapest: no tree costs less, so all of a tie", BoundaryLimitsTest::tiesAreCheapest);
        Checks.sentence("NO_TREE: no tree is there", BoundaryLimitsTest::noTreeThere);
        Checks.sentence("NO_TREE: none of the kind asked for", BoundaryLimitsTest::noTreeOfTheKind);
        Checks.sentence("NO_LIMIT: as great as one likes", BoundaryLimitsTest::noLimit);
        Checks.sentence("the questions change nothing: no edges", () -> questionsChangeNothing(0));
        Checks.sentence("the questions change nothing: no tree", () -> questionsChangeNothing(5));
        Checks.sentence("the questions change nothing: some edges", () -> questionsChangeNothing(9));
        Checks.sentence("the questions change nothing: full", () -> questionsChangeNothing(12));
        Checks.sentence("no such edge: too small", BoundaryLimitsTest::edgeTooSmall);
        Checks.sentence("no such edge: too large", BoundaryLimitsTest::edgeTooLarge);
        Checks.sentence("no such edge: dropped", BoundaryLimitsTest::edgeDropped);
        Checks.sentence("no such edge: tested first, without a tree", BoundaryLimitsTest::edgeTestedFirst);
        Checks.sentence("an edge that is off exists", BoundaryLimitsTest::offEdgeExists);
        Checks.finish();
    }

    private static void sevenVertices() {
        for (int vertex = 0; vertex <= 6; vertex++) {
            int other = (vertex + 1) % 7;
            Checks.due("edge(" + vertex + ", " + other + ", 1)", new TreeSlack().edge(vertex, other, 1), 0);
            Checks.due("edge(" + other + ", " + vertex + ", 1)", new TreeSlack().edge(other, vertex, 1), 0);
        }
        Checks.due("edge(6, 7, 1)", new TreeSlack().edge(6, 7, 1), TreeSlack.BAD_VERTEX);
        Checks.due("edge(-1, 0, 1)", new TreeSlack().edge(-1, 0, 1), TreeSlack.BAD_VERTEX);
    }

    private static void upToTwelveEdges() {
        TreeSlack x = Graphs.mixed(11);
        Checks.due("the twelfth edge", x.edge(0, 1, 1), 11);
        Checks.due("the thirteenth edge", x.edge(0, 1, 1), TreeSlack.FULL);
        Checks.due("the twelfth counts: trees()", Graphs.threeByFour(1).trees(), 432);
    }

    private static void numberedFromZero() {
        TreeSlack x = new TreeSlack();
        for (int number = 0; number < 12; number++) {
            Checks.due("weigh before it is there", x.weigh(number, 1), BAD_EDGE);
            Checks.due("edge(3, 4, " + number + ")", x.edge(3, 4, number), number);
            Checks.due("weigh(" + number + ", 20)", x.weigh(number, 20), number);
        }
    }

    private static void differentVertices() {
        for (int vertex = 0; vertex <= 6; vertex++) {
            TreeSlack x = new TreeSlack();
            Checks.due("edge(" + vertex + " twice)", x.edge(vertex, vertex, 1), TreeSlack.BAD_VERTEX);
            Checks.due("the next edge", x.edge(0, 1, 1), 0);
        }
    }

    private static void weightZeroToTwenty() {
        int[] weights = {0, 1, 19, 20};
        for (int weight : weights) {
            TreeSlack x = new TreeSlack();
            Checks.due("edge(0, 1, " + weight + ")", x.edge(0, 1, weight), 0);
            Checks.due("weigh(0, " + weight + ")", x.weigh(0, weight), weight);
            Checks.due("weigh(0, " + weight + ") again", x.weigh(0, weight), weight);
        }
        TreeSlack x = new TreeSlack();
        Checks.due("edge(0, 1, -1)", x.edge(0, 1, -1), TreeSlack.BAD_WEIGHT);
        Checks.due("edge(0, 1, 21)", x.edge(0, 1, 21), TreeSlack.BAD_WEIGHT);
    }

    private static void callsOfEdgeAndDrop() {
        TreeSlack x = new TreeSlack();
        for (int pair = 0; pair < 256; pair++) {
            Checks.due("edge, pair " + pair, x.edge(pair % 7, (pair + 1) % 7, pair % 21), 0);
            Checks.due("drop, pair " + pair, x.drop(), 0);
        }
    }

    private static void callsOfWeigh() {
        TreeSlack x = new TreeSlack();
        x.edge(0, 1, 0);
        for (int call = 1; call < 512; call++) {
            Checks.due("weigh, call " + call, x.weigh(0, call % 21), (call + 20) % 21);
        }
    }

    private static void callsOfTurn() {
        TreeSlack x = new TreeSlack();
        x.edge(0, 1, 20);
        for (int call = 1; call < 512; call++) {
            Checks.due("turn, call " + call, x.turn(0, call % 2 == 0), call % 2);
        }
    }

    private static void callsRefused() {
        TreeSlack x = new TreeSlack();
        for (int call = 0; call < 511; call++) {
            Checks.due("drop, call " + call, x.drop(), BAD_EDGE);
        }
        Checks.due("the 512th call", x.edge(5, 6, 20), 0);
    }

    private static void callsOfQuestions() {
        int[] due = {19, 1, 7, 1, 1, 19, 24, 5, 20, 5};
        for (int question = 0; question < QUESTIONS; question++) {
            TreeSlack x = Graphs.ring();
            for (int call = 8; call <= 512; call++) {
                Checks.due("question " + question + ", call " + call, ask(x, question, 0), due[question]);
            }
        }
    }

    // What they answer is free, so none is looked at; that they end is rule 7 of LANGUAGE.md.
    private static void callsPastTheLast() {
        TreeSlack x = Graphs.threeByFour(1);
        int cameBack = 0;
        for (int round = 0; round < 600; round++) {
            x.edge(round % 7, (round + 1) % 7, round % 21);
            x.weigh(round % 13, round % 21);
            x.turn(round % 13, round % 3 != 0);
            ask(x, round % QUESTIONS, round % 13);
            if (round % 5 == 0) {
                x.drop();
            }
            cameBack++;
        }
        Checks.due("rounds of calls that came back", cameBack, 600);
    }

    private static void fiveAreNoTree() {
        TreeSlack x = Graphs.path();
        Checks.due("six: trees()", x.trees(), 1);
        x.drop();
        Checks.due("five: trees()", x.trees(), 0);
        Checks.due("five: cost()", x.cost(), NO_TREE);
    }

    private static void sevenAreNoTree() {
        TreeSlack x = Graphs.evenPath(0);
        x.edge(2, 3, 0);
        Checks.due("seven: trees()", x.trees(), 2);
        Checks.due("seven: cheapest()", x.cheapest(), 2);
    }

    private static void offIsInNoTree() {
        for (int edge = 0; edge < 7; edge++) {
            TreeSlack x = Graphs.ring();
            x.turn(edge, false);
            Checks.due("edge " + edge + " off: trees()", x.trees(), 1);
            Checks.due("edge " + edge + " off: cost()", x.cost(), 25 - (edge < 6 ? edge + 1 : 4));
        }
    }

    private static void eachVertexCounts() {
        for (int vertex = 0; vertex <= 6; vertex++) {
            TreeSlack x = Graphs.without(vertex);
            Checks.due("vertex " + vertex + " apart: trees()", x.trees(), 0);
            Checks.due("vertex " + vertex + " apart: bottleneck()", x.bottleneck(), NO_TREE);
            x.drop();
            x.edge(vertex, (vertex + 3) % 7, 20);
            Checks.due("vertex " + vertex + " joined: bottleneck()", x.bottleneck(), 20);
        }
    }

    // Two parts of three and four vertices, each with as many edges as it has vertices or more.
    private static void twoPartsAreNoTree() {
        TreeSlack x = new TreeSlack();
        int[][] ends = {{0, 1}, {1, 2}, {2, 0}, {3, 4}, {4, 5}, {5, 6}, {6, 3}};
        for (int[] each : ends) {
            x.edge(each[0], each[1], 1);
        }
        Checks.due("two parts: trees()", x.trees(), 0);
        Checks.due("two parts: bottleneck()", x.bottleneck(), NO_TREE);
        x.edge(2, 3, 1);
        Checks.due("joined: trees()", x.trees(), 12);
    }

    // Paths that begin at any vertex, so that what is near vertex 0 may stand last.
    private static void anyOrderOfEdges() {
        for (int start = 0; start < 7; start++) {
            TreeSlack up = new TreeSlack();
            TreeSlack down = new TreeSlack();
            for (int step = 0; step < 6; step++) {
                up.edge((start + step) % 7, (start + step + 1) % 7, step);
                down.edge((start + 7 - step) % 7, (start + 6 - step) % 7, step);
            }
            Checks.due("up from " + start + ": trees()", up.trees(), 1);
            Checks.due("up from " + start + ": bottleneck()", up.bottleneck(), 5);
            Checks.due("down from " + start + ": trees()", down.trees(), 1);
            Checks.due("down from " + start + ": bottleneck()", down.bottleneck(), 5);
        }
    }

    private static void leastAndGreatestCost() {
        Checks.due("six weights of 0: cost()", Graphs.evenPath(0).cost(), 0);
        Checks.due("six weights of 20: cost()", Graphs.evenPath(20).cost(), 120);
    }

    private static void tiesAreCheapest() {
        TreeSlack x = Graphs.threeByFour(7);
        Checks.due("all equal: cheapest()", x.cheapest(), 432);
        Checks.due("all equal: cost()", x.cost(), 42);
    }

    private static void noTreeThere() {
        TreeSlack[] objects = {new TreeSlack(), Graphs.mixed(5), Graphs.without(0)};
        for (TreeSlack x : objects) {
            Checks.due("cost()", x.cost(), NO_TREE);
            Checks.due("nextCost()", x.nextCost(), NO_TREE);
            Checks.due("bottleneck()", x.bottleneck(), NO_TREE);
        }
        for (int i = 1; i < objects.length; i++) {
            Checks.due("costWith(0)", objects[i].costWith(0), NO_TREE);
            Checks.due("costWithout(0)", objects[i].costWithout(0), NO_TREE);
        }
    }

    private static void noTreeOfTheKind() {
        TreeSlack x = Graphs.path();
        x.edge(0, 6, 3);
        x.turn(6, false);
        Checks.due("cost()", x.cost(), 21);
        Checks.due("costWith(6), which is off", x.costWith(6), NO_TREE);
        Checks.due("costWithout(0), which every tree has", x.costWithout(0), NO_TREE);
        Checks.due("nextCost(), of one tree", x.nextCost(), NO_TREE);
    }

    private static void noLimit() {
        int[] weights = {0, 10, 20};
        for (int weight : weights) {
            Checks.due("slack(5) at " + weight, Graphs.evenPath(weight).slack(5), TreeSlack.NO_LIMIT);
        }
    }

    private static void questionsChangeNothing(int edges) {
        for (int question = 0; question < QUESTIONS; question++) {
            TreeSlack x = Graphs.mixedAfterDrops(edges);
            askOfAll(x, question);
            Twins.same("question " + question, x, Graphs.mixed(edges));
            for (int other = 0; other < QUESTIONS; other++) {
                leavesAnswers(edges, question, other);
            }
        }
    }

    // The other question is the first that the twin is asked, so that no change of its own can hide one.
    private static void leavesAnswers(int edges, int question, int other) {
        TreeSlack x = Graphs.mixedAfterDrops(edges);
        TreeSlack twin = Graphs.mixed(edges);
        askOfAll(x, question);
        for (int edge = 0; edge < 12; edge++) {
            String name = "question " + question + ", then question " + other + " of " + edge;
            Checks.due(name, ask(x, other, edge), ask(twin, other, edge));
        }
    }

    private static void askOfAll(TreeSlack x, int question) {
        for (int edge = -1; edge <= 12; edge++) {
            ask(x, question, edge);
        }
    }

    private static int ask(TreeSlack x, int question, int edge) {
        return switch (question) {
            case 0 -> x.cost();
            case 1 -> x.cheapest();
            case 2 -> x.trees();
            case 3 -> x.inSome(edge) ? 1 : 0;
            case 4 -> x.inAll(edge) ? 1 : 0;
            case 5 -> x.costWith(edge);
            case 6 -> x.costWithout(edge);
            case 7 -> x.slack(edge);
            case 8 -> x.nextCost();
            default -> x.bottleneck();
        };
    }

    private static void noSuchEdge(String when, TreeSlack x, int edge) {
        String of = "(" + edge + ")" + when;
        Checks.due("inSome" + of, x.inSome(edge), false);
        Checks.due("inAll" + of, x.inAll(edge), false);
        Checks.due("costWith" + of, x.costWith(edge), BAD_EDGE);
        Checks.due("costWithout" + of, x.costWithout(edge), BAD_EDGE);
        Checks.due("slack" + of, x.slack(edge), BAD_EDGE);
    }

    private static void edgeTooSmall() {
        for (int edge : Wrong.tooSmall()) {
            noSuchEdge(", path", Graphs.path(), edge);
            noSuchEdge(", full", Graphs.doubledPath(1, 1), edge);
        }
    }

    private static void edgeTooLarge() {
        for (int edges = 6; edges <= 12; edges++) {
            for (int edge : Wrong.tooLarge(edges - 1)) {
                noSuchEdge(", " + edges + " edges", Graphs.mixed(edges), edge);
            }
        }
    }

    private static void edgeDropped() {
        TreeSlack x = Graphs.doubledPath(1, 1);
        x.drop();
        noSuchEdge(", dropped", x, 11);
        x.drop();
        noSuchEdge(", dropped", x, 10);
        noSuchEdge(", dropped", x, 11);
    }

    private static void edgeTestedFirst() {
        noSuchEdge(", no edges", new TreeSlack(), 0);
        noSuchEdge(", no edges", new TreeSlack(), -1);
        noSuchEdge(", five edges", Graphs.mixed(5), 5);
        noSuchEdge(", five edges", Graphs.mixed(5), -1);
        noSuchEdge(", full", Graphs.without(3), 12);
    }

    private static void offEdgeExists() {
        TreeSlack x = Graphs.ring();
        x.turn(6, false);
        Checks.due("costWith(6)", x.costWith(6), NO_TREE);
        Checks.due("costWithout(6)", x.costWithout(6), 21);
        Checks.due("slack(6)", x.slack(6), 0);
        Checks.due("weigh(6, 9)", x.weigh(6, 9), 4);
        Checks.due("the next number", x.edge(0, 1, 1), 7);
    }
}
