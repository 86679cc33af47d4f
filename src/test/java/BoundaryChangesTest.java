/** The boundary cases of promises 1 to 5, a test for each sentence. */
public final class BoundaryChangesTest {
    private static final int BAD_EDGE = TreeSlack.BAD_EDGE;
    private static final int BAD_VERTEX = TreeSlack.BAD_VERTEX;
    private static final int BAD_WEIGHT = TreeSlack.BAD_WEIGHT;
    private static final int FULL = TreeSlack.FULL;

    public static void main(String[] args) {
        Checks.sentence("1: no edges, so none to take out", BoundaryChangesTest::newHasNoneToDrop);
        Checks.sentence("1: no edges, so none to weigh or turn", BoundaryChangesTest::newHasNoneToChange);
        Checks.sentence("1: no edges, so no tree", BoundaryChangesTest::newHasNoTree);
        Checks.sentence("1: no edges, so twelve places", BoundaryChangesTest::newHasTwelvePlaces);
        Checks.sentence("1: a new object beside another one", BoundaryChangesTest::newBesideAnother);
        edgeSentences();
        weighSentences();
        turnSentences();
        dropSentences();
        Checks.finish();
    }

    private static void edgeSentences() {
        Checks.sentence("2: adds an edge, on", BoundaryChangesTest::edgeIsOn);
        Checks.sentence("2: u too small", () -> badEnds(Wrong.tooSmall(), true));
        Checks.sentence("2: u too large", () -> badEnds(Wrong.tooLarge(6), true));
        Checks.sentence("2: v too small", () -> badEnds(Wrong.tooSmall(), false));
        Checks.sentence("2: v too large", () -> badEnds(Wrong.tooLarge(6), false));
        Checks.sentence("2: u == v", BoundaryChangesTest::equalEnds);
        Checks.sentence("2: weight too small", () -> badEdgeWeights(Wrong.tooSmall()));
        Checks.sentence("2: weight too large", () -> badEdgeWeights(Wrong.tooLarge(20)));
        Checks.sentence("2: there are twelve", BoundaryChangesTest::thereAreTwelve);
        Checks.sentence("2: there are twelve, some of them off", BoundaryChangesTest::thereAreTwelveOff);
        Checks.sentence("2: BAD_VERTEX before BAD_WEIGHT", BoundaryChangesTest::vertexBeforeWeight);
        Checks.sentence("2: BAD_VERTEX before FULL", BoundaryChangesTest::vertexBeforeFull);
        Checks.sentence("2: BAD_WEIGHT before FULL", BoundaryChangesTest::weightBeforeFull);
        Checks.sentence("2: answers its number, the first and the last", BoundaryChangesTest::firstAndLastNumber);
        Checks.sentence("2: several between the same vertices", BoundaryChangesTest::sameVertices);
    }

    private static void weighSentences() {
        Checks.sentence("3: no such edge, too small", () -> noEdgeToWeigh(9, Wrong.tooSmall()));
        Checks.sentence("3: no such edge, too large", () -> noEdgeToWeigh(9, Wrong.tooLarge(8)));
        Checks.sentence("3: no such edge, full", () -> noEdgeToWeigh(12, Wrong.tooLarge(11)));
        Checks.sentence("3: no such edge, no edges", () -> noEdgeToWeigh(0, Wrong.outside(-1)));
        Checks.sentence("3: weight too small", () -> badNewWeights(Wrong.tooSmall()));
        Checks.sentence("3: weight too large", () -> badNewWeights(Wrong.tooLarge(20)));
        Checks.sentence("3: BAD_EDGE before BAD_WEIGHT", BoundaryChangesTest::edgeBeforeWeight);
        Checks.sentence("3: answers the old one, 0 and 20", BoundaryChangesTest::oldWeightAtTheEnds);
        Checks.sentence("3: the first and the last edge", BoundaryChangesTest::weighFirstAndLast);
        Checks.sentence("3: an edge that is off", BoundaryChangesTest::weighWhileOff);
    }

    private static void turnSentences() {
        Checks.sentence("4: no such edge, too small", () -> noEdgeToTurn(9, Wrong.tooSmall()));
        Checks.sentence("4: no such edge, too large", () -> noEdgeToTurn(9, Wrong.tooLarge(8)));
        Checks.sentence("4: no such edge, full", () -> noEdgeToTurn(12, Wrong.tooLarge(11)));
        Checks.sentence("4: no such edge, no edges", () -> noEdgeToTurn(0, Wrong.outside(-1)));
        Checks.sentence("4: 1 if it was on, also if it stays on", BoundaryChangesTest::turnWhatIsOn);
        Checks.sentence("4: 0 if not, also if it stays off", BoundaryChangesTest::turnWhatIsOff);
        Checks.sentence("4: the first and the last edge", BoundaryChangesTest::turnFirstAndLast);
        Checks.sentence("4: all off, all on", BoundaryChangesTest::turnAll);
    }

    private static void dropSentences() {
        Checks.sentence("5: there is none, at first", BoundaryChangesTest::noneToDrop);
        Checks.sentence("5: there is none left", BoundaryChangesTest::noneLeftToDrop);
        Checks.sentence("5: how many are left, 11 to 0", BoundaryChangesTest::leftAfterDrop);
        Checks.sentence("5: the last edge, not another one", BoundaryChangesTest::dropTakesTheLast);
        Checks.sentence("5: the last edge, when it is off", BoundaryChangesTest::dropTakesTheLastOff);
        Checks.sentence("5: after a refused edge", BoundaryChangesTest::dropAfterRefusedEdge);
        Checks.sentence("5: the number is free again, the edge is new", BoundaryChangesTest::numberIsFreeAgain);
    }

    private static void newHasNoneToDrop() {
        Checks.due("drop()", new TreeSlack().drop(), BAD_EDGE);
    }

    private static void newHasNoneToChange() {
        TreeSlack x = new TreeSlack();
        for (int edge = 0; edge < 12; edge++) {
            Checks.due("weigh(" + edge + ", 0)", x.weigh(edge, 0), BAD_EDGE);
            Checks.due("turn(" + edge + ", true)", x.turn(edge, true), BAD_EDGE);
        }
    }

    private static void newHasNoTree() {
        TreeSlack x = new TreeSlack();
        Checks.due("cost()", x.cost(), TreeSlack.NO_TREE);
        Checks.due("cheapest()", x.cheapest(), 0);
        Checks.due("trees()", x.trees(), 0);
        Checks.due("nextCost()", x.nextCost(), TreeSlack.NO_TREE);
        Checks.due("bottleneck()", x.bottleneck(), TreeSlack.NO_TREE);
    }

    private static void newHasTwelvePlaces() {
        TreeSlack x = new TreeSlack();
        for (int number = 0; number < 12; number++) {
            Checks.due("edge", x.edge(1, 2, 3), number);
        }
        Checks.due("edge", x.edge(1, 2, 3), FULL);
    }

    private static void newBesideAnother() {
        TreeSlack full = Graphs.threeByFour(1);
        full.turn(11, false);
        TreeSlack path = Graphs.path();
        TreeSlack none = new TreeSlack();
        Checks.due("a new one: drop()", none.drop(), BAD_EDGE);
        Checks.due("a full one beside it: edge(0, 1, 1)", full.edge(0, 1, 1), FULL);
        Checks.due("a full one beside it: turn(11, true)", full.turn(11, true), 0);
        Checks.due("a full one beside it: trees()", full.trees(), 432);
        Checks.due("a full one beside it: cost()", full.cost(), 6);
        Checks.due("a path beside it: trees()", path.trees(), 1);
        Checks.due("a path beside it: cost()", path.cost(), 21);
    }

    private static void edgeIsOn() {
        for (int edges = 0; edges < 12; edges++) {
            TreeSlack x = Graphs.mixed(edges);
            int number = x.edge(0, 6, 0);
            Checks.due("turn(" + number + ", true)", x.turn(number, true), 1);
        }
        TreeSlack x = Graphs.evenPath(1);
        x.edge(0, 6, 0);
        Checks.due("trees() with the new edge", x.trees(), 7);
    }

    private static void badEnds(int[] wrong, boolean first) {
        for (int bad : wrong) {
            int u = first ? bad : 2;
            int v = first ? 2 : bad;
            refusedEdge(9, u, v, 4, BAD_VERTEX);
        }
        refusedEdge(0, first ? wrong[0] : 0, first ? 0 : wrong[0], 4, BAD_VERTEX);
    }

    private static void equalEnds() {
        for (int vertex = 0; vertex <= 6; vertex++) {
            refusedEdge(9, vertex, vertex, 4, BAD_VERTEX);
        }
        refusedEdge(0, 0, 0, 0, BAD_VERTEX);
    }

    private static void badEdgeWeights(int[] wrong) {
        for (int bad : wrong) {
            refusedEdge(9, 0, 6, bad, BAD_WEIGHT);
        }
        refusedEdge(0, 0, 6, wrong[0], BAD_WEIGHT);
    }

    private static void thereAreTwelve() {
        refusedEdge(12, 0, 1, 0, FULL);
        refusedEdge(12, 6, 5, 20, FULL);
        Checks.due("edge with one place left", Graphs.mixed(11).edge(0, 1, 0), 11);
    }

    private static void thereAreTwelveOff() {
        TreeSlack x = Graphs.mixed(12);
        for (int edge = 0; edge < 12; edge++) {
            x.turn(edge, false);
        }
        Checks.due("edge with all twelve off", x.edge(0, 1, 0), FULL);
    }

    private static void vertexBeforeWeight() {
        refusedEdge(9, 7, 0, 21, BAD_VERTEX);
        refusedEdge(9, 0, -1, -1, BAD_VERTEX);
        refusedEdge(9, 3, 3, 21, BAD_VERTEX);
    }

    private static void vertexBeforeFull() {
        refusedEdge(12, 7, 0, 4, BAD_VERTEX);
        refusedEdge(12, 0, -1, 4, BAD_VERTEX);
        refusedEdge(12, 3, 3, 4, BAD_VERTEX);
        refusedEdge(12, 3, 3, 21, BAD_VERTEX);
    }

    private static void weightBeforeFull() {
        refusedEdge(12, 0, 1, 21, BAD_WEIGHT);
        refusedEdge(12, 0, 1, -1, BAD_WEIGHT);
    }

    private static void refusedEdge(int edges, int u, int v, int weight, int answer) {
        String name = edges + " edges, edge(" + u + ", " + v + ", " + weight + ")";
        Twins.refused(name, edges, x -> x.edge(u, v, weight), answer);
    }

    private static void firstAndLastNumber() {
        Checks.due("the first", new TreeSlack().edge(0, 1, 0), 0);
        Checks.due("the second", Graphs.mixed(1).edge(0, 1, 0), 1);
        Checks.due("the last", Graphs.mixed(11).edge(0, 1, 0), 11);
    }

    // Twelve between 0 and 1, of which five are dropped for edges that join 2 to 6: seven trees.
    private static void sameVertices() {
        TreeSlack x = new TreeSlack();
        for (int number = 0; number < 12; number++) {
            int u = number % 2;
            Checks.due("edge(" + u + ", " + (1 - u) + ", 5)", x.edge(u, 1 - u, 5), number);
        }
        for (int vertex = 2; vertex <= 6; vertex++) {
            x.drop();
        }
        for (int vertex = 2; vertex <= 6; vertex++) {
            x.edge(1, vertex, 5);
        }
        Checks.due("seven side by side: trees()", x.trees(), 7);
        Checks.due("seven side by side: cheapest()", x.cheapest(), 7);
    }

    private static void noEdgeToWeigh(int edges, int[] wrong) {
        for (int bad : wrong) {
            refusedWeigh(edges, bad, 6, BAD_EDGE);
        }
    }

    private static void badNewWeights(int[] wrong) {
        for (int bad : wrong) {
            refusedWeigh(9, 0, bad, BAD_WEIGHT);
            refusedWeigh(9, 8, bad, BAD_WEIGHT);
        }
    }

    private static void edgeBeforeWeight() {
        refusedWeigh(9, 9, 21, BAD_EDGE);
        refusedWeigh(9, -1, -1, BAD_EDGE);
        refusedWeigh(0, 0, 21, BAD_EDGE);
        refusedWeigh(12, 12, -1, BAD_EDGE);
    }

    private static void refusedWeigh(int edges, int edge, int weight, int answer) {
        String name = edges + " edges, weigh(" + edge + ", " + weight + ")";
        Twins.refused(name, edges, x -> x.weigh(edge, weight), answer);
    }

    private static void oldWeightAtTheEnds() {
        TreeSlack x = Graphs.evenPath(0);
        Checks.due("weigh(0, 20)", x.weigh(0, 20), 0);
        Checks.due("cost()", x.cost(), 20);
        Checks.due("weigh(0, 20)", x.weigh(0, 20), 20);
        Checks.due("cost()", x.cost(), 20);
        Checks.due("weigh(0, 0)", x.weigh(0, 0), 20);
        Checks.due("cost()", x.cost(), 0);
        Checks.due("weigh(0, 0)", x.weigh(0, 0), 0);
    }

    private static void weighFirstAndLast() {
        TreeSlack x = Graphs.doubledPath(3, 4);
        Checks.due("weigh(0, 1)", x.weigh(0, 1), 3);
        Checks.due("cost()", x.cost(), 16);
        Checks.due("weigh(11, 0)", x.weigh(11, 0), 4);
        Checks.due("cost()", x.cost(), 13);
    }

    private static void weighWhileOff() {
        TreeSlack x = Graphs.evenPath(2);
        x.turn(5, false);
        Checks.due("weigh(5, 20)", x.weigh(5, 20), 2);
        Checks.due("trees()", x.trees(), 0);
        Checks.due("turn(5, true)", x.turn(5, true), 0);
        Checks.due("cost()", x.cost(), 30);
    }

    private static void noEdgeToTurn(int edges, int[] wrong) {
        for (int bad : wrong) {
            String name = edges + " edges, turn(" + bad + ", ";
            Twins.refused(name + "false)", edges, x -> x.turn(bad, false), BAD_EDGE);
            Twins.refused(name + "true)", edges, x -> x.turn(bad, true), BAD_EDGE);
        }
    }

    private static void turnWhatIsOn() {
        TreeSlack x = Graphs.path();
        Checks.due("turn(3, true)", x.turn(3, true), 1);
        Checks.due("trees()", x.trees(), 1);
        Checks.due("turn(3, false)", x.turn(3, false), 1);
        Checks.due("trees()", x.trees(), 0);
    }

    private static void turnWhatIsOff() {
        TreeSlack x = Graphs.path();
        x.turn(3, false);
        Checks.due("turn(3, false)", x.turn(3, false), 0);
        Checks.due("trees()", x.trees(), 0);
        Checks.due("turn(3, true)", x.turn(3, true), 0);
        Checks.due("trees()", x.trees(), 1);
    }

    private static void turnFirstAndLast() {
        TreeSlack x = Graphs.doubledPath(1, 1);
        Checks.due("turn(0, false)", x.turn(0, false), 1);
        Checks.due("trees()", x.trees(), 32);
        Checks.due("turn(11, false)", x.turn(11, false), 1);
        Checks.due("trees()", x.trees(), 16);
    }

    private static void turnAll() {
        TreeSlack x = Graphs.doubledPath(1, 1);
        for (int edge = 0; edge < 12; edge++) {
            Checks.due("turn(" + edge + ", false)", x.turn(edge, false), 1);
        }
        Checks.due("all off: trees()", x.trees(), 0);
        for (int edge = 0; edge < 12; edge++) {
            Checks.due("turn(" + edge + ", true)", x.turn(edge, true), 0);
        }
        Checks.due("all on: trees()", x.trees(), 64);
    }

    private static void noneToDrop() {
        Twins.refused("no edges, drop()", 0, TreeSlack::drop, BAD_EDGE);
    }

    private static void noneLeftToDrop() {
        TreeSlack x = Graphs.mixed(1);
        Checks.due("drop()", x.drop(), 0);
        Checks.due("drop()", x.drop(), BAD_EDGE);
        Checks.due("drop()", x.drop(), BAD_EDGE);
        Checks.due("the next number", x.edge(0, 1, 1), 0);
    }

    private static void leftAfterDrop() {
        TreeSlack x = Graphs.mixed(12);
        for (int left = 11; left >= 0; left--) {
            Checks.due("drop()", x.drop(), left);
        }
    }

    private static void dropTakesTheLast() {
        for (int edges = 1; edges <= 12; edges++) {
            TreeSlack x = Graphs.mixed(edges);
            x.drop();
            Twins.same("one of " + edges + " dropped", x, Graphs.mixed(edges - 1));
        }
    }

    private static void dropTakesTheLastOff() {
        TreeSlack x = Graphs.ring();
        x.turn(6, false);
        Checks.due("drop()", x.drop(), 6);
        Twins.same("the last dropped while off", x, Graphs.path());
    }

    private static void dropAfterRefusedEdge() {
        TreeSlack x = Graphs.mixed(12);
        x.edge(0, 1, 1);
        x.edge(0, 1, 21);
        x.edge(0, 0, 1);
        Checks.due("drop()", x.drop(), 11);
    }

    private static void numberIsFreeAgain() {
        TreeSlack x = Graphs.path();
        x.turn(5, false);
        x.drop();
        Checks.due("edge(6, 0, 20)", x.edge(6, 0, 20), 5);
        Checks.due("it is on", x.turn(5, true), 1);
        Checks.due("it has its own weight", x.weigh(5, 20), 20);
        Checks.due("it has its own ends: edge(5, 6, 0)", x.edge(5, 6, 0), 6);
        Checks.due("it has its own ends: trees()", x.trees(), 7);
    }
}
