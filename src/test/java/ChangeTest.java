/** Promises 1 to 5: a new object, edge, weigh, turn, drop. */
public final class ChangeTest {
    private static final int[] NOT_VERTICES = {-1, 7, 32, -32, 256, Integer.MIN_VALUE, Integer.MAX_VALUE};
    private static final int[] NOT_WEIGHTS = {-1, 21, 256, Integer.MIN_VALUE, Integer.MAX_VALUE};

    public static void main(String[] args) {
        newObject();
        edgeNumbers();
        edgeBounds();
        edgeBadVertex();
        edgeBadWeight();
        edgeFull();
        edgeOrderOfTests();
        weighOldOne();
        weighBad();
        turnOnAndOff();
        turnBad();
        dropLeft();
        dropThenAdd();
        objectsAreApart();
        Checks.finish();
    }

    private static int[] notEdges(int count) {
        return new int[] {-1, count, count + 1, 12, 13, count + 32, -32, Integer.MIN_VALUE, Integer.MAX_VALUE};
    }

    private static void newObject() {
        TreeSlack x = new TreeSlack();
        Checks.due("new: trees()", x.trees(), 0);
        Checks.due("new: cheapest()", x.cheapest(), 0);
        Checks.due("new: cost()", x.cost(), TreeSlack.NO_TREE);
        Checks.due("new: nextCost()", x.nextCost(), TreeSlack.NO_TREE);
        Checks.due("new: bottleneck()", x.bottleneck(), TreeSlack.NO_TREE);
        for (int edge = -1; edge <= 12; edge++) {
            Checks.due("new: weigh", x.weigh(edge, 1), TreeSlack.BAD_EDGE);
            Checks.due("new: turn", x.turn(edge, true), TreeSlack.BAD_EDGE);
            Checks.due("new: costWith", x.costWith(edge), TreeSlack.BAD_EDGE);
        }
        Checks.due("new: drop()", x.drop(), TreeSlack.BAD_EDGE);
        Checks.due("new: edge(0, 1, 1)", x.edge(0, 1, 1), 0);
    }

    private static void edgeNumbers() {
        TreeSlack x = new TreeSlack();
        for (int number = 0; number < 12; number++) {
            int u = number % 7;
            int v = (number + 1) % 7;
            Checks.due("edge number", x.edge(u, v, number), number);
            Checks.due("edge: on at once", x.turn(number, true), 1);
            Checks.due("edge: weight as given", x.weigh(number, number), number);
        }
    }

    private static void edgeBounds() {
        for (int u = 0; u < 7; u++) {
            for (int v = 0; v < 7; v++) {
                int want = u == v ? TreeSlack.BAD_VERTEX : 0;
                Checks.due("edge(" + u + ", " + v + ", 0)", new TreeSlack().edge(u, v, 0), want);
            }
        }
        for (int weight = 0; weight <= 20; weight++) {
            TreeSlack x = new TreeSlack();
            Checks.due("edge(0, 6, " + weight + ")", x.edge(0, 6, weight), 0);
            Checks.due("weight kept", x.weigh(0, 0), weight);
        }
    }

    private static void edgeBadVertex() {
        TreeSlack x = Graphs.ring();
        for (int bad : NOT_VERTICES) {
            Checks.due("edge(" + bad + ", 1, 1)", x.edge(bad, 1, 1), TreeSlack.BAD_VERTEX);
            Checks.due("edge(1, " + bad + ", 1)", x.edge(1, bad, 1), TreeSlack.BAD_VERTEX);
            Checks.due("edge(" + bad + " twice)", x.edge(bad, bad, 1), TreeSlack.BAD_VERTEX);
        }
        ringUnchanged("after bad vertices", x);
    }

    private static void edgeBadWeight() {
        TreeSlack x = Graphs.ring();
        for (int bad : NOT_WEIGHTS) {
            Checks.due("edge(0, 1, " + bad + ")", x.edge(0, 1, bad), TreeSlack.BAD_WEIGHT);
        }
        ringUnchanged("after bad weights", x);
    }

    private static void edgeFull() {
        TreeSlack x = Graphs.doubledPath(1, 2);
        Checks.due("a thirteenth edge", x.edge(0, 6, 0), TreeSlack.FULL);
        Checks.due("full: trees()", x.trees(), 64);
        Checks.due("full: cost()", x.cost(), 6);
        Checks.due("full: costWith(12)", x.costWith(12), TreeSlack.BAD_EDGE);
        Checks.due("full: weigh(11, 2)", x.weigh(11, 2), 2);
        x.turn(3, false);
        Checks.due("an edge that is off takes its place too", x.edge(0, 6, 0), TreeSlack.FULL);
        Checks.due("full: drop()", x.drop(), 11);
        Checks.due("room again", x.edge(0, 6, 0), 11);
        Checks.due("full again", x.edge(0, 6, 0), TreeSlack.FULL);
    }

    private static void edgeOrderOfTests() {
        TreeSlack x = new TreeSlack();
        Checks.due("edge(7, 0, 21)", x.edge(7, 0, 21), TreeSlack.BAD_VERTEX);
        Checks.due("edge(3, 3, -1)", x.edge(3, 3, -1), TreeSlack.BAD_VERTEX);
        TreeSlack full = Graphs.doubledPath(0, 0);
        Checks.due("full: edge(-1, 0, 21)", full.edge(-1, 0, 21), TreeSlack.BAD_VERTEX);
        Checks.due("full: edge(2, 2, 1)", full.edge(2, 2, 1), TreeSlack.BAD_VERTEX);
        Checks.due("full: edge(0, 1, 21)", full.edge(0, 1, 21), TreeSlack.BAD_WEIGHT);
        Checks.due("full: edge(0, 1, -1)", full.edge(0, 1, -1), TreeSlack.BAD_WEIGHT);
    }

    private static void weighOldOne() {
        TreeSlack x = Graphs.path();
        Checks.due("weigh(2, 20)", x.weigh(2, 20), 3);
        Checks.due("weigh: cost()", x.cost(), 38);
        Checks.due("weigh(2, 0)", x.weigh(2, 0), 20);
        Checks.due("weigh: cost()", x.cost(), 18);
        Checks.due("weigh(2, 0)", x.weigh(2, 0), 0);
        x.turn(2, false);
        Checks.due("weigh(2, 9) while off", x.weigh(2, 9), 0);
        Checks.due("weigh leaves it off", x.turn(2, true), 0);
        Checks.due("weigh: cost()", x.cost(), 27);
        for (int other = 0; other < 6; other++) {
            int want = other == 2 ? 9 : other + 1;
            Checks.due("weigh changes that edge alone", x.weigh(other, 1), want);
        }
    }

    private static void weighBad() {
        TreeSlack x = Graphs.ring();
        for (int bad : notEdges(7)) {
            Checks.due("weigh(" + bad + ", 1)", x.weigh(bad, 1), TreeSlack.BAD_EDGE);
            Checks.due("weigh(" + bad + ", 21)", x.weigh(bad, 21), TreeSlack.BAD_EDGE);
        }
        for (int bad : NOT_WEIGHTS) {
            Checks.due("weigh(0, " + bad + ")", x.weigh(0, bad), TreeSlack.BAD_WEIGHT);
        }
        ringUnchanged("after bad weigh", x);
    }

    private static void turnOnAndOff() {
        TreeSlack x = Graphs.ring();
        Checks.due("turn(6, true) of an edge that is on", x.turn(6, true), 1);
        Checks.due("turn(6, false)", x.turn(6, false), 1);
        Checks.due("off: trees()", x.trees(), 1);
        Checks.due("off: costWith(6)", x.costWith(6), TreeSlack.NO_TREE);
        Checks.due("turn(6, false) of an edge that is off", x.turn(6, false), 0);
        Checks.due("turn(0, false)", x.turn(0, false), 1);
        Checks.due("off: trees()", x.trees(), 0);
        Checks.due("turn(6, true)", x.turn(6, true), 0);
        Checks.due("turn(0, true)", x.turn(0, true), 0);
        ringUnchanged("on again", x);
    }

    private static void turnBad() {
        TreeSlack x = Graphs.ring();
        for (int bad : notEdges(7)) {
            Checks.due("turn(" + bad + ", false)", x.turn(bad, false), TreeSlack.BAD_EDGE);
            Checks.due("turn(" + bad + ", true)", x.turn(bad, true), TreeSlack.BAD_EDGE);
        }
        ringUnchanged("after bad turn", x);
        Checks.due("the next edge", x.edge(0, 3, 20), 7);
    }

    private static void dropLeft() {
        TreeSlack x = Graphs.doubledPath(1, 2);
        for (int left = 11; left >= 0; left--) {
            Checks.due("drop()", x.drop(), left);
            Checks.due("the dropped edge is gone", x.weigh(left, 3), TreeSlack.BAD_EDGE);
            Checks.due("the dropped edge is gone", x.turn(left, true), TreeSlack.BAD_EDGE);
            Checks.due("drop: trees()", x.trees(), left < 11 ? 0 : 32);
        }
        Checks.due("drop() of none", x.drop(), TreeSlack.BAD_EDGE);
        Checks.due("drop() of none", x.drop(), TreeSlack.BAD_EDGE);
        Checks.due("the first edge again", x.edge(5, 6, 4), 0);
        Checks.due("drop()", x.drop(), 0);
    }

    private static void dropThenAdd() {
        TreeSlack x = Graphs.ring();
        x.turn(6, false);
        Checks.due("drop() of an edge that is off", x.drop(), 6);
        Checks.due("drop: trees()", x.trees(), 1);
        Checks.due("drop: bottleneck()", x.bottleneck(), 6);
        Checks.due("edge(6, 4, 0)", x.edge(6, 4, 0), 6);
        Checks.due("the new edge is on", x.turn(6, true), 1);
        Checks.due("the new edge's weight", x.weigh(6, 0), 0);
        Checks.due("the new edge's ends: trees()", x.trees(), 3);
        Checks.due("the new edge's ends: cost()", x.cost(), 15);
    }

    private static void objectsAreApart() {
        TreeSlack x = Graphs.ring();
        TreeSlack y = new TreeSlack();
        y.edge(0, 1, 20);
        y.turn(0, false);
        ringUnchanged("with a second object", x);
        Checks.due("second object: trees()", y.trees(), 0);
        Checks.due("second object: costWith(1)", y.costWith(1), TreeSlack.BAD_EDGE);
    }

    /** The weights are read by setting each to what it should be. */
    private static void ringUnchanged(String when, TreeSlack x) {
        Checks.due(when + ": trees()", x.trees(), 7);
        Checks.due(when + ": cost()", x.cost(), 19);
        Checks.due(when + ": costWith(7)", x.costWith(7), TreeSlack.BAD_EDGE);
        for (int edge = 0; edge < 7; edge++) {
            int weight = edge < 6 ? edge + 1 : 4;
            Checks.due(when + ": weight of " + edge, x.weigh(edge, weight), weight);
            Checks.due(when + ": edge " + edge + " on", x.turn(edge, true), 1);
        }
    }
}
