/** Objects that several tests start from. */
final class Graphs {
    private Graphs() {
    }

    /** The path 0-1-2-3-4-5-6 with weights 1 to 6: one tree, of cost 21. */
    static TreeSlack path() {
        TreeSlack x = new TreeSlack();
        for (int v = 0; v < 6; v++) {
            x.edge(v, v + 1, v + 1);
        }
        return x;
    }

    /** The path with a seventh edge of weight 4 from 6 to 0, so that it is a ring of seven trees. */
    static TreeSlack ring() {
        TreeSlack x = path();
        x.edge(6, 0, 4);
        return x;
    }

    /** Six pairs of edges side by side: 64 trees, the greatest number of edges. */
    static TreeSlack doubledPath(int firstWeight, int secondWeight) {
        TreeSlack x = new TreeSlack();
        for (int v = 0; v < 6; v++) {
            x.edge(v, v + 1, firstWeight);
            x.edge(v + 1, v, secondWeight);
        }
        return x;
    }
}
