/** Counting on small graphs by one polynomial. */
public final class GraphPolynomials {
    public static final int BAD = -1;
    public static final int FULL = -2;

    private static final int MOST_POINTS = 6;
    private static final int MOST_EDGES = 8;
    private static final int MOST_COLOURS = 6;
    private static final int MOST_MODULUS = 4;
    private static final int MOST_EXPONENT = 8;

    private final int pointCount;
    private int edgeCount;
    private final int[] firstEnd = new int[MOST_EDGES];
    private final int[] secondEnd = new int[MOST_EDGES];

    // Working room: methods may make no arrays. Nothing here lasts from one call to the next.
    private final int[] partOf = new int[MOST_POINTS];
    private final int[] colourOf = new int[MOST_POINTS];
    private final int[] flowOver = new int[MOST_EDGES];
    private final int[] surplus = new int[MOST_POINTS];
    private final int[] reachable = new int[MOST_POINTS];

    public GraphPolynomials(int points) {
        pointCount = points < 1 ? 1 : points > MOST_POINTS ? MOST_POINTS : points;
        edgeCount = 0;
    }

    public int add(int u, int v) {
        if (edgeCount >= MOST_EDGES) {
            return FULL;
        }
        if (u < 0 || u >= pointCount || v < 0 || v >= pointCount) {
            return BAD;
        }
        firstEnd[edgeCount] = u;
        secondEnd[edgeCount] = v;
        edgeCount++;
        return edgeCount;
    }

    public int drop(int i) {
        if (i < 0 || i >= edgeCount) {
            return BAD;
        }
        takeOut(i);
        return edgeCount;
    }

    public int merge(int i) {
        if (i < 0 || i >= edgeCount) {
            return BAD;
        }
        int u = firstEnd[i];
        int v = secondEnd[i];
        int smaller = u < v ? u : v;
        int greater = u < v ? v : u;
        takeOut(i);
        replace(firstEnd, edgeCount, greater, smaller);
        replace(secondEnd, edgeCount, greater, smaller);
        return edgeCount;
    }

    public int edges() {
        return edgeCount;
    }

    public int parts() {
        return pointCount - fullRank();
    }

    public int coefficient(int i, int j) {
        if (i < 0 || i > MOST_EXPONENT || j < 0 || j > MOST_EXPONENT) {
            return 0;
        }
        int fullRank = fullRank();
        int sets = 1 << edgeCount;
        int sum = 0;
        for (int set = 0; set < sets; set++) {
            int rank = rank(set);
            int size = size(set);
            int inX = expanded(fullRank - rank, i);
            int inY = expanded(size - rank, j);
            sum += inX * inY;
        }
        return sum;
    }

    public int trees() {
        int fullRank = fullRank();
        int sets = 1 << edgeCount;
        int found = 0;
        for (int set = 0; set < sets; set++) {
            int rank = rank(set);
            int size = size(set);
            if (rank == fullRank && size == rank) {
                found++;
            }
        }
        return found;
    }

    public int forests() {
        int sets = 1 << edgeCount;
        int found = 0;
        for (int set = 0; set < sets; set++) {
            int rank = rank(set);
            int size = size(set);
            if (size == rank) {
                found++;
            }
        }
        return found;
    }

    public int spanning() {
        int fullRank = fullRank();
        int sets = 1 << edgeCount;
        int found = 0;
        for (int set = 0; set < sets; set++) {
            int rank = rank(set);
            if (rank == fullRank) {
                found++;
            }
        }
        return found;
    }

    public int colourings(int k) {
        if (k < 0 || k > MOST_COLOURS) {
            return BAD;
        }
        int ways = power(k, pointCount);
        int found = 0;
        for (int way = 0; way < ways; way++) {
            writeDigits(way, k, colourOf, pointCount);
            if (coloursDiffer()) {
                found++;
            }
        }
        return found;
    }

    public int flows(int k) {
        if (k < 1 || k > MOST_MODULUS) {
            return BAD;
        }
        int ways = power(k - 1, edgeCount);
        int found = 0;
        for (int way = 0; way < ways; way++) {
            writeDigits(way, k - 1, flowOver, edgeCount);
            if (flowBalances(k)) {
                found++;
            }
        }
        return found;
    }

    public int acyclic() {
        int ways = 1 << edgeCount;
        int found = 0;
        for (int turned = 0; turned < ways; turned++) {
            if (!hasCircle(turned)) {
                found++;
            }
        }
        return found;
    }

    private void takeOut(int i) {
        edgeCount--;
        for (int e = i; e < edgeCount; e++) {
            firstEnd[e] = firstEnd[e + 1];
            secondEnd[e] = secondEnd[e + 1];
        }
    }

    private static void replace(int[] values, int count, int old, int fresh) {
        for (int at = 0; at < count; at++) {
            if (values[at] == old) {
                values[at] = fresh;
            }
        }
    }

    private int fullRank() {
        return rank((1 << edgeCount) - 1);
    }

    // Every edge that joins two parts lessens their number by one, so the joins are n - c(A).
    private int rank(int set) {
        for (int p = 0; p < pointCount; p++) {
            partOf[p] = p;
        }
        int joins = 0;
        for (int e = 0; e < edgeCount; e++) {
            int one = partOf[firstEnd[e]];
            int other = partOf[secondEnd[e]];
            if ((set >> e & 1) == 1 && one != other) {
                replace(partOf, pointCount, other, one);
                joins++;
            }
        }
        return joins;
    }

    private static int size(int set) {
        int size = 0;
        for (int e = 0; e < MOST_EDGES; e++) {
            size += set >> e & 1;
        }
        return size;
    }

    /** The coefficient of z^i in (z - 1)^exponent. */
    private static int expanded(int exponent, int i) {
        if (i > exponent) {
            return 0;
        }
        int chosen = 1;
        for (int k = 1; k <= i; k++) {
            // Whole at each step: the product so far is the binomial of exponent over k - 1.
            chosen = chosen * (exponent - k + 1) / k;
        }
        return (exponent - i) % 2 == 0 ? chosen : -chosen;
    }

    // The empty product is 1 for base 0 too: without edges there is one flow, whatever k is.
    private static int power(int base, int exponent) {
        int product = 1;
        for (int factor = 0; factor < exponent; factor++) {
            product *= base;
        }
        return product;
    }

    /** Writes way in the given base, each digit from 1 to base instead of from 0. */
    private static void writeDigits(int way, int base, int[] digits, int count) {
        if (base < 1) {
            return;
        }
        int rest = way;
        for (int at = 0; at < count; at++) {
            digits[at] = rest % base + 1;
            rest /= base;
        }
    }

    private boolean coloursDiffer() {
        for (int e = 0; e < edgeCount; e++) {
            if (colourOf[firstEnd[e]] == colourOf[secondEnd[e]]) {
                return false;
            }
        }
        return true;
    }

    private boolean flowBalances(int k) {
        for (int p = 0; p < pointCount; p++) {
            surplus[p] = 0;
        }
        for (int e = 0; e < edgeCount; e++) {
            surplus[firstEnd[e]] += flowOver[e];
            surplus[secondEnd[e]] -= flowOver[e];
        }
        for (int p = 0; p < pointCount; p++) {
            if (surplus[p] % k != 0) {
                return false;
            }
        }
        return true;
    }

    /** Whether a directed circle arises when the edges of the set turned run from second end to first. */
    private boolean hasCircle(int turned) {
        for (int p = 0; p < pointCount; p++) {
            reachable[p] = 0;
        }
        for (int e = 0; e < edgeCount; e++) {
            boolean back = (turned >> e & 1) == 1;
            int from = back ? secondEnd[e] : firstEnd[e];
            int to = back ? firstEnd[e] : secondEnd[e];
            reachable[from] |= 1 << to;
        }
        // The stop is the outer loop: only so do ways over several stops come together.
        for (int stop = 0; stop < pointCount; stop++) {
            for (int p = 0; p < pointCount; p++) {
                if ((reachable[p] >> stop & 1) == 1) {
                    reachable[p] |= reachable[stop];
                }
            }
        }
        for (int p = 0; p < pointCount; p++) {
            if ((reachable[p] >> p & 1) == 1) {
                return true;
            }
        }
        return false;
    }
}
