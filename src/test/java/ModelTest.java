import java.util.ArrayList;
import java.util.List;

/**
 * Long runs of calls against a second reckoning. It finds the polynomial by taking out and merging edges and
 * reads the counts from its values, where the program looks at every set, colouring, flow and direction.
 */
public final class ModelTest {
    private static final int RUNS = 150;
    private static final int CHANGES = 15;

    private static int wrong = 0;
    private static long seed = 20261115L;

    private static void due(String call, long got, long want) {
        if (got != want) {
            wrong++;
            if (wrong <= 20) {
                System.out.println(call + " answered " + got + ", due is " + want);
            }
        }
    }

    // A fixed series, so that a failing run comes again.
    private static int next(int from, int to) {
        seed = seed * 6364136223846793005L + 1442695040888963407L;
        return from + (int) ((seed >>> 33) % (to - from + 1));
    }

    private static List<int[]> without(List<int[]> edges, int i) {
        List<int[]> left = new ArrayList<>(edges);
        left.remove(i);
        return left;
    }

    private static List<int[]> merged(List<int[]> edges, int i) {
        int smaller = Math.min(edges.get(i)[0], edges.get(i)[1]);
        int greater = Math.max(edges.get(i)[0], edges.get(i)[1]);
        List<int[]> left = new ArrayList<>();
        for (int[] edge : without(edges, i)) {
            left.add(new int[] {edge[0] == greater ? smaller : edge[0], edge[1] == greater ? smaller : edge[1]});
        }
        return left;
    }

    private static boolean joined(List<int[]> edges, int from, int to) {
        boolean[] seen = new boolean[6];
        seen[from] = true;
        for (int round = 0; round < 6; round++) {
            for (int[] edge : edges) {
                boolean either = seen[edge[0]] || seen[edge[1]];
                seen[edge[0]] = either;
                seen[edge[1]] = either;
            }
        }
        return seen[to];
    }

    private static int parts(int points, List<int[]> edges) {
        int parts = 0;
        for (int p = 0; p < points; p++) {
            boolean first = true;
            for (int q = 0; q < p; q++) {
                first &= !joined(edges, q, p);
            }
            parts += first ? 1 : 0;
        }
        return parts;
    }

    private static void addPolynomial(List<int[]> edges, int bridges, int loops, long[][] sum) {
        if (edges.isEmpty()) {
            sum[bridges][loops]++;
            return;
        }
        int[] edge = edges.get(0);
        List<int[]> rest = without(edges, 0);
        if (edge[0] == edge[1]) {
            addPolynomial(rest, bridges, loops + 1, sum);
        } else if (!joined(rest, edge[0], edge[1])) {
            addPolynomial(merged(edges, 0), bridges + 1, loops, sum);
        } else {
            addPolynomial(rest, bridges, loops, sum);
            addPolynomial(merged(edges, 0), bridges, loops, sum);
        }
    }

    private static long power(long base, int exponent) {
        long product = 1;
        for (int factor = 0; factor < exponent; factor++) {
            product *= base;
        }
        return product;
    }

    private static long value(long[][] polynomial, long x, long y) {
        long sum = 0;
        for (int i = 0; i <= 8; i++) {
            for (int j = 0; j <= 8; j++) {
                sum += polynomial[i][j] * power(x, i) * power(y, j);
            }
        }
        return sum;
    }

    private static void compare(String name, GraphPolynomials g, int points, List<int[]> edges) {
        long[][] polynomial = new long[9][9];
        addPolynomial(edges, 0, 0, polynomial);
        int parts = parts(points, edges);
        int rank = points - parts;
        due(name + "edges()", g.edges(), edges.size());
        due(name + "parts()", g.parts(), parts);
        int i = next(-1, 9);
        int j = next(-1, 9);
        boolean inside = i >= 0 && i <= 8 && j >= 0 && j <= 8;
        due(name + "coefficient(" + i + ", " + j + ")", g.coefficient(i, j), inside ? polynomial[i][j] : 0);
        due(name + "trees()", g.trees(), value(polynomial, 1, 1));
        due(name + "forests()", g.forests(), value(polynomial, 2, 1));
        due(name + "spanning()", g.spanning(), value(polynomial, 1, 2));
        due(name + "acyclic()", g.acyclic(), value(polynomial, 2, 0));
        for (int k = -1; k <= 7; k++) {
            long count = power(-1, rank) * power(k, parts) * value(polynomial, 1 - k, 0);
            due(name + "colourings(" + k + ")", g.colourings(k), k < 0 || k > 6 ? -1 : count);
        }
        for (int k = 0; k <= 5; k++) {
            long count = power(-1, edges.size() - rank) * value(polynomial, 0, 1 - k);
            due(name + "flows(" + k + ")", g.flows(k), k < 1 || k > 4 ? -1 : count);
        }
    }

    private static void compareEveryCoefficient(String name, GraphPolynomials g, List<int[]> edges) {
        long[][] polynomial = new long[9][9];
        addPolynomial(edges, 0, 0, polynomial);
        for (int i = 0; i <= 8; i++) {
            for (int j = 0; j <= 8; j++) {
                due(name + "coefficient(" + i + ", " + j + ")", g.coefficient(i, j), polynomial[i][j]);
            }
        }
    }

    private static List<int[]> changed(String name, GraphPolynomials g, int points, List<int[]> edges) {
        int kind = next(0, 9);
        int i = next(-1, 8);
        boolean there = i >= 0 && i < edges.size();
        if (kind == 0) {
            due(name + "drop(" + i + ")", g.drop(i), there ? edges.size() - 1 : -1);
            return there ? without(edges, i) : edges;
        }
        if (kind <= 2) {
            due(name + "merge(" + i + ")", g.merge(i), there ? edges.size() - 1 : -1);
            return there ? merged(edges, i) : edges;
        }
        int u = next(0, 19) == 0 ? next(-1, 6) : next(0, points - 1);
        int v = next(0, 19) == 0 ? next(-1, 6) : next(0, points - 1);
        boolean bad = u < 0 || u >= points || v < 0 || v >= points;
        int want = edges.size() == 8 ? -2 : bad ? -1 : edges.size() + 1;
        due(name + "add(" + u + ", " + v + ")", g.add(u, v), want);
        if (want < 0) {
            return edges;
        }
        List<int[]> more = new ArrayList<>(edges);
        more.add(new int[] {u, v});
        return more;
    }

    public static void main(String[] args) {
        for (int run = 0; run < RUNS; run++) {
            int given = next(-1, 8);
            int points = Math.max(1, Math.min(6, given));
            GraphPolynomials g = new GraphPolynomials(given);
            List<int[]> edges = new ArrayList<>();
            for (int change = 0; change < CHANGES; change++) {
                String name = "run " + run + ", change " + change + ": ";
                edges = changed(name, g, points, edges);
                compare(name, g, points, edges);
            }
            compareEveryCoefficient("run " + run + ", end: ", g, edges);
        }
        System.out.println(wrong == 0 ? "all answers are as due" : wrong + " answers are not as due");
        if (wrong != 0) {
            System.exit(1);
        }
    }
}
