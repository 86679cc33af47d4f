/** The boundary cases of promises 6 to 15, a test for each sentence. */
public final class BoundaryQuestionsTest {
    private static final int NO_TREE = TreeSlack.NO_TREE;
    private static final int NO_LIMIT = TreeSlack.NO_LIMIT;

    public static void main(String[] args) {
        countSentences();
        kindSentences();
        slackSentences();
        Checks.sentence("14: NO_TREE if there is no tree", BoundaryQuestionsTest::nextCostWithoutTree);
        Checks.sentence("14: NO_TREE if there is one tree", BoundaryQuestionsTest::nextCostOfOneTree);
        Checks.sentence("14: NO_TREE if all cost the same", BoundaryQuestionsTest::nextCostAllTheSame);
        Checks.sentence("14: above cost(), not equal to it", BoundaryQuestionsTest::nextCostIsAbove);
        Checks.sentence("14: the least above, nearest and farthest", BoundaryQuestionsTest::nextCostNearAndFar);
        Checks.sentence("15: NO_TREE", BoundaryQuestionsTest::bottleneckWithoutTree);
        Checks.sentence("15: each w from 0 to 20", BoundaryQuestionsTest::bottleneckOfEachWeight);
        Checks.sentence("15: of at most w, w itself too", BoundaryQuestionsTest::bottleneckIsReached);
        Checks.sentence("15: edges that are on", BoundaryQuestionsTest::bottleneckOfOnEdges);
        Checks.sentence("15: all vertices", BoundaryQuestionsTest::bottleneckOfAllVertices);
        Checks.finish();
    }

    private static void countSentences() {
        Checks.sentence("6: NO_TREE", BoundaryQuestionsTest::costWithoutTree);
        Checks.sentence("6: the cost of a cheapest tree, 0 to 120", BoundaryQuestionsTest::costFromLeastToGreatest);
        Checks.sentence("7: 0 if there is no tree", BoundaryQuestionsTest::cheapestWithoutTree);
        Checks.sentence("7: one, and all", BoundaryQuestionsTest::cheapestOneAndAll);
        Checks.sentence("7: those that cost one more are none", BoundaryQuestionsTest::cheapestNotOneDearer);
        Checks.sentence("8: none", BoundaryQuestionsTest::treesNone);
        Checks.sentence("8: one, and many", BoundaryQuestionsTest::treesOneAndMany);
        Checks.sentence("8: of any cost", BoundaryQuestionsTest::treesOfAnyCost);
    }

    private static void kindSentences() {
        Checks.sentence("9: no tree, so none has the edge", BoundaryQuestionsTest::inSomeWithoutTree);
        Checks.sentence("9: an edge that is off", BoundaryQuestionsTest::inSomeOff);
        Checks.sentence("9: some, a tie and one more", BoundaryQuestionsTest::inSomeAtTheTie);
        Checks.sentence("10: and there is one", BoundaryQuestionsTest::inAllWithoutTree);
        Checks.sentence("10: an edge that is off", BoundaryQuestionsTest::inAllOff);
        Checks.sentence("10: all, a tie and one less", BoundaryQuestionsTest::inAllAtTheTie);
        Checks.sentence("10: every tree has the edge", BoundaryQuestionsTest::inAllOfEvery);
        Checks.sentence("11: NO_TREE, no tree", () -> costsWithoutTree(true));
        Checks.sentence("11: NO_TREE, an edge that is off", BoundaryQuestionsTest::costWithOff);
        Checks.sentence("11: an edge that no cheapest tree has", BoundaryQuestionsTest::costWithDearer);
        Checks.sentence("12: NO_TREE, no tree", () -> costsWithoutTree(false));
        Checks.sentence("12: NO_TREE, every tree has the edge", BoundaryQuestionsTest::costWithoutNeeded);
        Checks.sentence("12: an edge that is off", BoundaryQuestionsTest::costWithoutOff);
        Checks.sentence("12: an edge that all cheapest trees have", BoundaryQuestionsTest::costWithoutDearer);
    }

    private static void slackSentences() {
        Checks.sentence("13: no cheapest tree has it: 0", BoundaryQuestionsTest::slackOfDearer);
        Checks.sentence("13: no cheapest tree has it: 0, off", BoundaryQuestionsTest::slackOff);
        Checks.sentence("13: 0 also if there is no tree", BoundaryQuestionsTest::slackWithoutTree);
        Checks.sentence("13: every tree has it: NO_LIMIT", BoundaryQuestionsTest::slackOfNeeded);
        Checks.sentence("13: above 20 too, not cut at 20", BoundaryQuestionsTest::slackOfTwenty);
        Checks.sentence("13: a tie can't be raised", BoundaryQuestionsTest::slackOfTie);
        Checks.sentence("13: each slack from 0 to 20", BoundaryQuestionsTest::slackOfEachSize);
        Checks.sentence("13: has the edge still, and no more one above", BoundaryQuestionsTest::slackIsTheMost);
        Checks.sentence("13: the edge's weight alone", BoundaryQuestionsTest::slackOfOneAlone);
        Checks.sentence("13: some cheapest tree, not all", BoundaryQuestionsTest::slackAmongTies);
    }

    /** Without any edge, with too few, with enough that leave a vertex apart, with enough that are off. */
    private static TreeSlack[] treeless() {
        TreeSlack off = Graphs.threeByFour(1);
        for (int v = 0; v < 4; v++) {
            off.turn(v, false);
        }
        return new TreeSlack[] {new TreeSlack(), Graphs.mixed(5), Graphs.without(6), off};
    }

    private static void costWithoutTree() {
        for (TreeSlack x : treeless()) {
            Checks.due("cost()", x.cost(), NO_TREE);
        }
    }

    private static void costFromLeastToGreatest() {
        for (int weight = 0; weight <= 20; weight++) {
            Checks.due("all weights " + weight + ": cost()", Graphs.doubledPath(weight, 20).cost(), 6 * weight);
        }
    }

    private static void cheapestWithoutTree() {
        for (TreeSlack x : treeless()) {
            Checks.due("cheapest()", x.cheapest(), 0);
        }
    }

    private static void cheapestOneAndAll() {
        Checks.due("one tree: cheapest()", Graphs.evenPath(20).cheapest(), 1);
        Checks.due("one of 64: cheapest()", Graphs.doubledPath(0, 1).cheapest(), 1);
        Checks.due("all of 64: cheapest()", Graphs.doubledPath(0, 0).cheapest(), 64);
        Checks.due("all of 432: cheapest()", Graphs.threeByFour(20).cheapest(), 432);
    }

    private static void cheapestNotOneDearer() {
        TreeSlack x = Graphs.doubledPath(5, 5);
        x.weigh(0, 6);
        Checks.due("one edge dearer: cheapest()", x.cheapest(), 32);
        x.weigh(0, 4);
        Checks.due("one edge cheaper: cheapest()", x.cheapest(), 32);
        x.weigh(0, 5);
        Checks.due("all the same: cheapest()", x.cheapest(), 64);
    }

    private static void treesNone() {
        for (TreeSlack x : treeless()) {
            Checks.due("trees()", x.trees(), 0);
        }
    }

    private static void treesOneAndMany() {
        Checks.due("path: trees()", Graphs.path().trees(), 1);
        Checks.due("ring: trees()", Graphs.ring().trees(), 7);
        Checks.due("doubled path: trees()", Graphs.doubledPath(1, 1).trees(), 64);
        Checks.due("three by four: trees()", Graphs.threeByFour(1).trees(), 432);
    }

    private static void treesOfAnyCost() {
        TreeSlack x = Graphs.doubledPath(0, 20);
        Checks.due("trees()", x.trees(), 64);
    }

    private static void inSomeWithoutTree() {
        TreeSlack[] objects = treeless();
        for (int i = 1; i < objects.length; i++) {
            Checks.due("inSome(4)", objects[i].inSome(4), false);
        }
    }

    private static void inSomeOff() {
        TreeSlack x = Graphs.doubledPath(1, 0);
        x.turn(1, false);
        Checks.due("inSome(1)", x.inSome(1), false);
        Checks.due("inSome(0)", x.inSome(0), true);
    }

    private static void inSomeAtTheTie() {
        TreeSlack x = Graphs.doubledPath(9, 9);
        Checks.due("as heavy: inSome(0)", x.inSome(0), true);
        x.weigh(0, 10);
        Checks.due("one more: inSome(0)", x.inSome(0), false);
        x.weigh(0, 8);
        Checks.due("one less: inSome(0)", x.inSome(0), true);
    }

    private static void inAllWithoutTree() {
        TreeSlack[] objects = treeless();
        for (int i = 1; i < objects.length; i++) {
            Checks.due("inAll(4)", objects[i].inAll(4), false);
        }
    }

    private static void inAllOff() {
        TreeSlack x = Graphs.doubledPath(1, 0);
        x.turn(1, false);
        Checks.due("inAll(1)", x.inAll(1), false);
        Checks.due("inAll(0)", x.inAll(0), true);
    }

    private static void inAllAtTheTie() {
        TreeSlack x = Graphs.doubledPath(9, 9);
        Checks.due("as heavy: inAll(0)", x.inAll(0), false);
        x.weigh(0, 8);
        Checks.due("one less: inAll(0)", x.inAll(0), true);
        x.weigh(0, 10);
        Checks.due("one more: inAll(0)", x.inAll(0), false);
    }

    private static void inAllOfEvery() {
        TreeSlack x = Graphs.doubledPath(1, 1);
        x.drop();
        x.weigh(10, 20);
        Checks.due("inAll(10)", x.inAll(10), true);
        Checks.due("inAll(9)", x.inAll(9), false);
    }

    private static void costsWithoutTree(boolean with) {
        TreeSlack[] objects = treeless();
        for (int i = 1; i < objects.length; i++) {
            int got = with ? objects[i].costWith(4) : objects[i].costWithout(4);
            Checks.due("cost with or without 4", got, NO_TREE);
        }
    }

    private static void costWithOff() {
        TreeSlack x = Graphs.doubledPath(1, 0);
        x.turn(1, false);
        Checks.due("costWith(1)", x.costWith(1), NO_TREE);
        x.turn(1, true);
        Checks.due("costWith(1)", x.costWith(1), 0);
    }

    private static void costWithDearer() {
        TreeSlack x = Graphs.doubledPath(0, 20);
        Checks.due("costWith(11)", x.costWith(11), 20);
        Checks.due("costWith(10)", x.costWith(10), 0);
    }

    private static void costWithoutNeeded() {
        for (int edge = 0; edge < 6; edge++) {
            Checks.due("costWithout(" + edge + ")", Graphs.evenPath(20).costWithout(edge), NO_TREE);
        }
    }

    private static void costWithoutOff() {
        TreeSlack x = Graphs.doubledPath(1, 0);
        x.turn(1, false);
        Checks.due("costWithout(1)", x.costWithout(1), 1);
    }

    private static void costWithoutDearer() {
        TreeSlack x = Graphs.doubledPath(0, 20);
        Checks.due("costWithout(10)", x.costWithout(10), 20);
        Checks.due("costWithout(11)", x.costWithout(11), 0);
    }

    private static void slackOfDearer() {
        TreeSlack x = Graphs.doubledPath(3, 4);
        Checks.due("one above: slack(1)", x.slack(1), 0);
        x.weigh(1, 20);
        Checks.due("far above: slack(1)", x.slack(1), 0);
    }

    private static void slackOff() {
        TreeSlack x = Graphs.doubledPath(3, 0);
        x.turn(1, false);
        Checks.due("slack(1)", x.slack(1), 0);
        Checks.due("slack(0), alone now", x.slack(0), NO_LIMIT);
    }

    private static void slackWithoutTree() {
        TreeSlack[] objects = treeless();
        for (int i = 1; i < objects.length; i++) {
            Checks.due("slack(4)", objects[i].slack(4), 0);
        }
    }

    private static void slackOfNeeded() {
        for (int edge = 0; edge < 6; edge++) {
            Checks.due("slack(" + edge + ")", Graphs.path().slack(edge), NO_LIMIT);
        }
    }

    private static void slackOfTwenty() {
        TreeSlack x = Graphs.doubledPath(1, 1);
        x.drop();
        x.weigh(10, 20);
        Checks.due("needed, of weight 20: slack(10)", x.slack(10), NO_LIMIT);
        x.weigh(10, 0);
        Checks.due("needed, of weight 0: slack(10)", x.slack(10), NO_LIMIT);
    }

    private static void slackOfTie() {
        int[] weights = {0, 7, 20};
        for (int weight : weights) {
            TreeSlack x = Graphs.doubledPath(weight, weight);
            Checks.due("weight " + weight + ": slack(0)", x.slack(0), 0);
            Checks.due("weight " + weight + ": slack(11)", x.slack(11), 0);
        }
    }

    private static void slackOfEachSize() {
        for (int weight = 0; weight <= 20; weight++) {
            TreeSlack x = Graphs.doubledPath(0, weight);
            Checks.due("0 beside " + weight + ": slack(6)", x.slack(6), weight);
            TreeSlack y = Graphs.doubledPath(weight, 20);
            Checks.due(weight + " beside 20: slack(6)", y.slack(6), 20 - weight);
        }
    }

    // In the ring the weight 2 may grow to 6, the weight of the edge that the cheapest tree lacks.
    private static void slackIsTheMost() {
        TreeSlack x = Graphs.ring();
        Checks.due("slack(1)", x.slack(1), 4);
        x.weigh(1, 6);
        Checks.due("raised by 4: inSome(1)", x.inSome(1), true);
        Checks.due("raised by 4: slack(1)", x.slack(1), 0);
        x.weigh(1, 7);
        Checks.due("raised by 5: inSome(1)", x.inSome(1), false);
    }

    private static void slackOfOneAlone() {
        TreeSlack x = Graphs.ring();
        Checks.due("slack(0)", x.slack(0), 5);
        x.weigh(1, 6);
        Checks.due("another one raised: slack(0)", x.slack(0), 5);
        x.weigh(5, 20);
        Checks.due("the lacking one raised: slack(0)", x.slack(0), 19);
    }

    // Edges 0 and 1 side by side, 3 and 3; while edge 2 beside 3 has slack of its own.
    private static void slackAmongTies() {
        TreeSlack x = Graphs.doubledPath(3, 3);
        x.weigh(3, 8);
        Checks.due("of a tie: slack(0)", x.slack(0), 0);
        Checks.due("beside ties: slack(2)", x.slack(2), 5);
        Checks.due("beside ties: slack(3)", x.slack(3), 0);
    }

    private static void nextCostWithoutTree() {
        for (TreeSlack x : treeless()) {
            Checks.due("nextCost()", x.nextCost(), NO_TREE);
        }
    }

    private static void nextCostOfOneTree() {
        Checks.due("path: nextCost()", Graphs.path().nextCost(), NO_TREE);
        TreeSlack x = Graphs.ring();
        x.turn(0, false);
        Checks.due("ring, one edge off: nextCost()", x.nextCost(), NO_TREE);
    }

    private static void nextCostAllTheSame() {
        int[] weights = {0, 1, 20};
        for (int weight : weights) {
            TreeSlack x = Graphs.threeByFour(weight);
            Checks.due("all weights " + weight + ": nextCost()", x.nextCost(), NO_TREE);
        }
    }

    private static void nextCostIsAbove() {
        TreeSlack x = Graphs.doubledPath(0, 0);
        x.weigh(11, 1);
        Checks.due("cost()", x.cost(), 0);
        Checks.due("nextCost()", x.nextCost(), 1);
    }

    private static void nextCostNearAndFar() {
        Checks.due("0 beside 1: nextCost()", Graphs.doubledPath(0, 1).nextCost(), 1);
        Checks.due("0 beside 20: nextCost()", Graphs.doubledPath(0, 20).nextCost(), 20);
        Checks.due("19 beside 20: nextCost()", Graphs.doubledPath(19, 20).nextCost(), 115);
        TreeSlack x = Graphs.doubledPath(20, 20);
        x.weigh(0, 19);
        Checks.due("one 19 among 20: nextCost()", x.nextCost(), 120);
    }

    private static void bottleneckWithoutTree() {
        for (TreeSlack x : treeless()) {
            Checks.due("bottleneck()", x.bottleneck(), NO_TREE);
        }
    }

    private static void bottleneckOfEachWeight() {
        for (int weight = 0; weight <= 20; weight++) {
            TreeSlack x = Graphs.evenPath(0);
            x.weigh(3, weight);
            Checks.due("one weight " + weight + ": bottleneck()", x.bottleneck(), weight);
        }
    }

    private static void bottleneckIsReached() {
        TreeSlack x = Graphs.doubledPath(6, 7);
        Checks.due("bottleneck()", x.bottleneck(), 6);
        x.weigh(4, 7);
        Checks.due("one pair of 7: bottleneck()", x.bottleneck(), 7);
        x.weigh(5, 8);
        Checks.due("7 beside 8: bottleneck()", x.bottleneck(), 7);
        x.weigh(4, 8);
        Checks.due("8 beside 8: bottleneck()", x.bottleneck(), 8);
    }

    private static void bottleneckOfOnEdges() {
        TreeSlack x = Graphs.doubledPath(0, 20);
        Checks.due("bottleneck()", x.bottleneck(), 0);
        x.turn(10, false);
        Checks.due("a light one off: bottleneck()", x.bottleneck(), 20);
        x.turn(11, false);
        Checks.due("both off: bottleneck()", x.bottleneck(), NO_TREE);
    }

    private static void bottleneckOfAllVertices() {
        for (int vertex = 0; vertex <= 6; vertex++) {
            TreeSlack x = Graphs.without(vertex);
            Checks.due("without " + vertex + ": bottleneck()", x.bottleneck(), NO_TREE);
            x.drop();
            x.edge(vertex, (vertex + 1) % 7, 13);
            Checks.due("with " + vertex + ": bottleneck()", x.bottleneck(), 13);
        }
    }
}
