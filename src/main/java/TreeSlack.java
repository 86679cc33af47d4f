/**
 * Cheapest ways to connect seven vertices by up to twelve edges.
 *
 * A set of edges is held as the bits of an int, and so is a set of vertices. Twelve edges have only
 * 4096 sets, so a question is answered by looking at all of them: nothing is kept between calls
 * that could grow stale.
 */
public final class TreeSlack {
    public static final int BAD_EDGE = -1;
    public static final int BAD_VERTEX = -2;
    public static final int BAD_WEIGHT = -3;
    public static final int FULL = -4;
    public static final int NO_TREE = -5;
    public static final int NO_LIMIT = -6;

    private static final int VERTICES = 7;
    private static final int ALL_VERTICES = (1 << VERTICES) - 1;
    private static final int TREE_SIZE = VERTICES - 1;
    private static final int MOST_EDGES = 12;
    private static final int ALL_SETS = 1 << MOST_EDGES;
    private static final int MOST_WEIGHT = 20;
    private static final int NO_EDGES = 0;
    private static final int BELOW_ANY_COST = -1;

    private final int[] ends = new int[MOST_EDGES];
    private final int[] weights = new int[MOST_EDGES];
    private int count;
    private int onEdges;

    public TreeSlack() {
        count = 0;
        onEdges = NO_EDGES;
    }

    public int edge(int u, int v, int weight) {
        if (!isVertex(u) || !isVertex(v) || u == v) {
            return BAD_VERTEX;
        }
        if (!isWeight(weight)) {
            return BAD_WEIGHT;
        }
        if (count >= MOST_EDGES) {
            return FULL;
        }
        int added = count;
        ends[added] = (1 << u) | (1 << v);
        weights[added] = weight;
        onEdges |= 1 << added;
        count = added + 1;
        return added;
    }

    public int weigh(int edge, int weight) {
        if (!exists(edge)) {
            return BAD_EDGE;
        }
        if (!isWeight(weight)) {
            return BAD_WEIGHT;
        }
        int old = weights[edge];
        weights[edge] = weight;
        return old;
    }

    public int turn(int edge, boolean on) {
        if (!exists(edge)) {
            return BAD_EDGE;
        }
        int bit = 1 << edge;
        int wasOn = (onEdges & bit) != 0 ? 1 : 0;
        if (on) {
            onEdges |= bit;
        } else {
            onEdges &= ~bit;
        }
        return wasOn;
    }

    public int drop() {
        if (count <= 0) {
            return BAD_EDGE;
        }
        count--;
        // Trees are told by onEdges alone, so a dropped edge must not stay on there.
        onEdges &= ~(1 << count);
        return count;
    }

    public int cost() {
        return leastCostAbove(BELOW_ANY_COST, NO_EDGES, NO_EDGES);
    }

    public int cheapest() {
        int least = leastCostAbove(BELOW_ANY_COST, NO_EDGES, NO_EDGES);
        int found = 0;
        for (int set = 0; set < ALL_SETS; set++) {
            if (isTree(set) && weightOf(set) == least) {
                found++;
            }
        }
        return found;
    }

    public int trees() {
        int found = 0;
        for (int set = 0; set < ALL_SETS; set++) {
            if (isTree(set)) {
                found++;
            }
        }
        return found;
    }

    public boolean inSome(int edge) {
        return exists(edge) && isInSomeCheapest(edge);
    }

    public boolean inAll(int edge) {
        if (!exists(edge)) {
            return false;
        }
        int least = leastCostAbove(BELOW_ANY_COST, NO_EDGES, NO_EDGES);
        int leastWithout = leastCostAbove(BELOW_ANY_COST, NO_EDGES, 1 << edge);
        return least != NO_TREE && leastWithout != least;
    }

    public int costWith(int edge) {
        if (!exists(edge)) {
            return BAD_EDGE;
        }
        return leastCostAbove(BELOW_ANY_COST, 1 << edge, NO_EDGES);
    }

    public int costWithout(int edge) {
        if (!exists(edge)) {
            return BAD_EDGE;
        }
        return leastCostAbove(BELOW_ANY_COST, NO_EDGES, 1 << edge);
    }

    public int slack(int edge) {
        if (!exists(edge)) {
            return BAD_EDGE;
        }
        // This stands first because without any tree the answer is 0, not NO_LIMIT.
        if (!isInSomeCheapest(edge)) {
            return 0;
        }
        int leastWithout = leastCostAbove(BELOW_ANY_COST, NO_EDGES, 1 << edge);
        if (leastWithout == NO_TREE) {
            return NO_LIMIT;
        }
        // Raising the weight makes all trees with the edge dearer alike, and no other tree.
        int leastWith = leastCostAbove(BELOW_ANY_COST, 1 << edge, NO_EDGES);
        return leastWithout - leastWith;
    }

    public int nextCost() {
        int least = leastCostAbove(BELOW_ANY_COST, NO_EDGES, NO_EDGES);
        if (least == NO_TREE) {
            return NO_TREE;
        }
        return leastCostAbove(least, NO_EDGES, NO_EDGES);
    }

    public int bottleneck() {
        for (int limit = 0; limit <= MOST_WEIGHT; limit++) {
            int light = onEdgesUpTo(limit);
            if (connectsAll(light)) {
                return limit;
            }
        }
        return NO_TREE;
    }

    private boolean isVertex(int vertex) {
        return vertex >= 0 && vertex < VERTICES;
    }

    private boolean isWeight(int weight) {
        return weight >= 0 && weight <= MOST_WEIGHT;
    }

    private boolean exists(int edge) {
        return edge >= 0 && edge < count;
    }

    private boolean isInSomeCheapest(int edge) {
        int leastWith = leastCostAbove(BELOW_ANY_COST, 1 << edge, NO_EDGES);
        int least = leastCostAbove(BELOW_ANY_COST, NO_EDGES, NO_EDGES);
        return leastWith != NO_TREE && leastWith == least;
    }

    private int leastCostAbove(int floor, int needed, int barred) {
        int least = NO_TREE;
        for (int set = 0; set < ALL_SETS; set++) {
            boolean fits = (set & needed) == needed && (set & barred) == NO_EDGES;
            if (fits && isTree(set)) {
                int sum = weightOf(set);
                if (sum > floor && (least == NO_TREE || sum < least)) {
                    least = sum;
                }
            }
        }
        return least;
    }

    private boolean isTree(int set) {
        return (set & ~onEdges) == NO_EDGES && sizeOf(set) == TREE_SIZE && connectsAll(set);
    }

    private int sizeOf(int set) {
        int size = 0;
        for (int edge = 0; edge < MOST_EDGES; edge++) {
            size += (set >> edge) & 1;
        }
        return size;
    }

    private int weightOf(int set) {
        int sum = 0;
        for (int edge = 0; edge < MOST_EDGES; edge++) {
            if (((set >> edge) & 1) != 0) {
                sum += weights[edge];
            }
        }
        return sum;
    }

    private int onEdgesUpTo(int limit) {
        int light = NO_EDGES;
        for (int edge = 0; edge < MOST_EDGES; edge++) {
            if (((onEdges >> edge) & 1) != 0 && weights[edge] <= limit) {
                light |= 1 << edge;
            }
        }
        return light;
    }

    private boolean connectsAll(int set) {
        int reached = 1;
        // Each round reaches a further vertex if one can be reached, and six are to be reached.
        for (int round = 0; round < TREE_SIZE; round++) {
            for (int edge = 0; edge < MOST_EDGES; edge++) {
                if (((set >> edge) & 1) != 0 && (reached & ends[edge]) != 0) {
                    reached |= ends[edge];
                }
            }
        }
        return reached == ALL_VERTICES;
    }
}
