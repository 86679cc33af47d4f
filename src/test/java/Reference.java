import java.math.BigInteger;

/**
 * The document's promises by another way than the program's: Kirchhoff's theorem counts the trees
 * of each cost as the digits of one determinant, without looking at any tree.
 */
final class Reference {
    private static final int DIGIT_BITS = 12;
    private static final int MOST_COST = 400;

    private final int[] us = new int[12];
    private final int[] vs = new int[12];
    private final int[] weights = new int[12];
    private final boolean[] ons = new boolean[12];
    private int count = 0;

    int edge(int u, int v, int weight) {
        if (u < 0 || u > 6 || v < 0 || v > 6 || u == v) {
            return -2;
        }
        if (weight < 0 || weight > 20) {
            return -3;
        }
        if (count == 12) {
            return -4;
        }
        us[count] = u;
        vs[count] = v;
        weights[count] = weight;
        ons[count] = true;
        return count++;
    }

    int weigh(int edge, int weight) {
        if (missing(edge)) {
            return -1;
        }
        if (weight < 0 || weight > 20) {
            return -3;
        }
        int old = weights[edge];
        weights[edge] = weight;
        return old;
    }

    int turn(int edge, boolean on) {
        if (missing(edge)) {
            return -1;
        }
        boolean old = ons[edge];
        ons[edge] = on;
        return old ? 1 : 0;
    }

    int drop() {
        return count == 0 ? -1 : --count;
    }

    int cost() {
        return firstAbove(-1, treesByCost(-1, 20));
    }

    int cheapest() {
        int least = cost();
        return least < 0 ? 0 : treesByCost(-1, 20)[least];
    }

    int trees() {
        return sum(treesByCost(-1, 20));
    }

    boolean inSome(int edge) {
        return !missing(edge) && cost() >= 0 && treesWith(edge)[cost()] > 0;
    }

    boolean inAll(int edge) {
        return !missing(edge) && cost() >= 0 && treesWith(edge)[cost()] == cheapest();
    }

    int costWith(int edge) {
        return missing(edge) ? -1 : firstAbove(-1, treesWith(edge));
    }

    int costWithout(int edge) {
        return missing(edge) ? -1 : firstAbove(-1, treesByCost(edge, 20));
    }

    /** Raises the weight step by step, as the promise words it. */
    int slack(int edge) {
        if (missing(edge)) {
            return -1;
        }
        if (!inSome(edge)) {
            return 0;
        }
        if (sum(treesWith(edge)) == trees()) {
            return -6;
        }
        int old = weights[edge];
        int raised = 0;
        while (inSome(edge)) {
            raised++;
            weights[edge] = old + raised;
        }
        weights[edge] = old;
        return raised - 1;
    }

    int nextCost() {
        return cost() < 0 ? -5 : firstAbove(cost(), treesByCost(-1, 20));
    }

    int bottleneck() {
        for (int w = 0; w <= 20; w++) {
            if (sum(treesByCost(-1, w)) > 0) {
                return w;
            }
        }
        return -5;
    }

    private boolean missing(int edge) {
        return edge < 0 || edge >= count;
    }

    private int[] treesWith(int edge) {
        int[] with = treesByCost(-1, 20);
        int[] without = treesByCost(edge, 20);
        for (int c = 0; c <= MOST_COST; c++) {
            with[c] -= without[c];
        }
        return with;
    }

    private static int firstAbove(int floor, int[] trees) {
        for (int c = floor + 1; c <= MOST_COST; c++) {
            if (trees[c] > 0) {
                return c;
            }
        }
        return -5;
    }

    private static int sum(int[] trees) {
        int sum = 0;
        for (int each : trees) {
            sum += each;
        }
        return sum;
    }

    /** A limit below 20 leaves heavier edges out; at 20 it leaves none out, raised ones neither. */
    private int[] treesByCost(int without, int limit) {
        BigInteger[][] laplacian = new BigInteger[7][7];
        for (BigInteger[] row : laplacian) {
            java.util.Arrays.fill(row, BigInteger.ZERO);
        }
        for (int e = 0; e < count; e++) {
            if (ons[e] && e != without && (limit == 20 || weights[e] <= limit)) {
                BigInteger term = BigInteger.ONE.shiftLeft(DIGIT_BITS * weights[e]);
                laplacian[us[e]][us[e]] = laplacian[us[e]][us[e]].add(term);
                laplacian[vs[e]][vs[e]] = laplacian[vs[e]][vs[e]].add(term);
                laplacian[us[e]][vs[e]] = laplacian[us[e]][vs[e]].subtract(term);
                laplacian[vs[e]][us[e]] = laplacian[vs[e]][us[e]].subtract(term);
            }
        }
        return digits(minor(laplacian));
    }

    private static int[] digits(BigInteger number) {
        int[] digits = new int[MOST_COST + 1];
        BigInteger mask = BigInteger.valueOf((1 << DIGIT_BITS) - 1);
        for (int c = 0; c <= MOST_COST; c++) {
            digits[c] = number.shiftRight(DIGIT_BITS * c).and(mask).intValue();
        }
        return digits;
    }

    /** The determinant of the first six rows and columns, by Bareiss; each pivot of a Laplacian's
     * minor is 0 only if the whole determinant is. */
    private static BigInteger minor(BigInteger[][] m) {
        BigInteger last = BigInteger.ONE;
        for (int k = 0; k < 5; k++) {
            if (m[k][k].signum() == 0) {
                return BigInteger.ZERO;
            }
            for (int i = k + 1; i < 6; i++) {
                for (int j = k + 1; j < 6; j++) {
                    BigInteger cross = m[i][j].multiply(m[k][k]).subtract(m[i][k].multiply(m[k][j]));
                    m[i][j] = cross.divide(last);
                }
            }
            last = m[k][k];
        }
        return m[5][5];
    }
}
