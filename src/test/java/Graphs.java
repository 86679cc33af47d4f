/** Objects that several tests start from. */
final class Graphs {
    private static final int[][] MIXED = {
        {0, 1, 3}, {1, 2, 0}, {2, 3, 20}, {3, 4, 7}, {4, 5, 7}, {5, 6, 1},
        {6, 0, 12}, {1, 0, 5}, {2, 5, 9}, {3, 6, 2}, {0, 4, 11}, {5, 1, 16},
    };

    private Graphs() {
    }

    /** The path 0-1-2-3-4-5-6 with weights 1 to 6: one tree, of cost 21. */
    static TreeSlack path() {
        TreeSlack x = new TreeSlack();
        for (int v = 0; v < 6; v++) {
            x.edge(v, v + 1, v + 1);
        }
        return x;
    }

    /** The path with all six weights the same. */
    static TreeSlack evenPath(int weight) {
        TreeSlack x = new TreeSlack();
        for (int v = 0; v < 6; v++) {
            x.edge(v, v + 1, weight);
        }
        return x;
    }

    /** The path with a seventh edge of weight 4 from 6 to 0, so that it is a ring of seven trees. */
    static TreeSlack ring() {
        TreeSlack x = path();
        x.edge(6, 0, 4);
        return x;
    }

    /** Six pairs of edges side by side: 64 trees, the greatest number of edges. */
    static TreeSlack doubledPath(int firstWeight, int secondWeight) {
        TreeSlack x = new TreeSlack();
        for (int v = 0; v < 6; v++) {
            x.edge(v, v + 1, firstWeight);
            x.edge(v + 1, v, secondWeight);
        }
        return x;
    }

    /** Each of 0, 1, 2 joined to each of 3, 4, 5, 6: 3^3 * 4^2 = 432 trees, more than a byte holds. */
    static TreeSlack threeByFour(int weight) {
        TreeSlack x = new TreeSlack();
        for (int u = 0; u < 3; u++) {
            for (int v = 3; v < 7; v++) {
                x.edge(u, v, weight);
            }
        }
        return x;
    }

    /** All vertices but one joined in a path, with twelve edges two by two or more side by side. */
    static TreeSlack without(int vertex) {
        TreeSlack x = new TreeSlack();
        for (int i = 0; i < 12; i++) {
            int u = (vertex + 1 + i % 5) % 7;
            int v = (vertex + 2 + i % 5) % 7;
            x.edge(u, v, i);
        }
        return x;
    }

    /** Edges that differ in ends and weights, the fourth of them off, so that any change shows. */
    static TreeSlack mixed(int edges) {
        TreeSlack x = new TreeSlack();
        for (int i = 0; i < edges; i++) {
            x.edge(MIXED[i][0], MIXED[i][1], MIXED[i][2]);
        }
        x.turn(3, false);
        return x;
    }

    /** The same edges as mixed(edges), left over from twelve. */
    static TreeSlack mixedAfterDrops(int edges) {
        TreeSlack x = mixed(12);
        for (int left = 12; left > edges; left--) {
            x.drop();
        }
        return x;
    }
}
