import java.util.ArrayList;
import java.util.List;

/**
 * Long runs of calls against a second reckoning. It finds the polynomial by taking out and merging edges and
 * reads the counts from its values, where the program looks at every set, colouring, flow and direction.
 */
public final class ModelTest {
    private static final int RUNS = 150;
    private static final int CHANGES = 15;
    private static final int FULL_RUNS = 60;
    private static final int CALLS = 512;

    private static long seed = 20261115L;

    private static void due(String call, long got, long want) {
        Check.due(call, got, want);
    }

    // A fixed series, so that a failing run comes again.
    private static int next(int from, int to) {
        seed = seed * 6364136223846793005L + 1442695040888963407L;
        return from + (int) ((seed >>> 33) % (to - from + 1));
    }

    private static List<int[]> without(List<int[]> edges, int i) {
        List<int[]> left = new ArrayList<>(edges);
        left.remove(i);
        return left;
    }

    private static List<int[]> merged(List<int[]> edges, int i) {
        int smaller = Math.min(edges.get(i)[0], edges.get(i)[1]);
        int greater = Math.max(edges.get(i)[0], edges.get(i)[1]);
        List<int[]> left = new ArrayList<>();
        for (int[] edge : without(edges, i)) {
            left.add(new int[] {edge[0] == greater ? smaller : edge[0], edge[1] == greater ? smaller : edge[1]});
        }
        return left;
    }

    private static boolean joined(List<int[]> edges, int from, int to) {
        boolean[] seen = new boolean[6];
        seen[from] = true;
        for (int round = 0; round < 6; round++) {
            for (int[] edge : edges) {
                boolean either = seen[edge[0]] || seen[edge[1]];
                seen[edge[0]] = either;
                seen[edge[1]] = either;
            }
        }
        return seen[to];
    }

    private static int parts(int points, List<int[]> edges) {
        int parts = 0;
        for (int p = 0; p < points; p++) {
            boolean first = true;
            for (int q = 0; q < p; q++) {
                first &= !joined(edges, q, p);
            }
            parts += first ? 1 : 0;
        }
        return parts;
    }

    private static void addPolynomial(List<int[]> edges, int bridges, int loops, long[][] sum) {
        if (edges.isEmpty()) {
            sum[bridges][loops]++;
            return;
        }
        int[] edge = edges.get(0);
        List<int[]> rest = without(edges, 0);
        if (edge[0] == edge[1]) {
            addPolynomial(rest, bridges, loops + 1, sum);
        } else if (!joined(rest, edge[0], edge[1])) {
            addPolynomial(merged(edges, 0), bridges + 1, loops, sum);
        } else {
            addPolynomial(rest, bridges, loops, sum);
            addPolynomial(merged(edges, 0), bridges, loops, sum);
        }
    }

    private static long power(long base, int exponent) {
        long product = 1;
        for (int factor = 0; factor < exponent; factor++) {
            product *= base;
        }
        return product;
    }

    private static long value(long[][] polynomial, long x, long y) {
        long sum = 0;
        for (int i = 0; i <= 8; i++) {
            for (int j = 0; j <= 8; j++) {
                sum += polynomial[i][j] * power(x, i) * power(y, j);
            }
        }
        return sum;
    }

    /** What is due of a graph, read from its polynomial. */
    private static final class Model {
        final long[][] polynomial = new long[9][9];
        final int edgeCount;
        final int parts;
        final int rank;

        Model(int points, List<int[]> edges) {
            addPolynomial(edges, 0, 0, polynomial);
            edgeCount = edges.size();
            parts = parts(points, edges);
            rank = points - parts;
        }

        long coefficient(int i, int j) {
            return i >= 0 && i <= 8 && j >= 0 && j <= 8 ? polynomial[i][j] : 0;
        }

        long colourings(int k) {
            return k < 0 || k > 6 ? -1 : power(-1, rank) * power(k, parts) * value(polynomial, 1 - k, 0);
        }

        long flows(int k) {
            return k < 1 || k > 4 ? -1 : power(-1, edgeCount - rank) * value(polynomial, 0, 1 - k);
        }
    }

    private static void askPlain(String name, GraphPolynomials g, Model model, int question) {
        switch (question) {
            case 0 -> due(name + "edges()", g.edges(), model.edgeCount);
            case 1 -> due(name + "parts()", g.parts(), model.parts);
            case 2 -> due(name + "trees()", g.trees(), value(model.polynomial, 1, 1));
            case 3 -> due(name + "forests()", g.forests(), value(model.polynomial, 2, 1));
            case 4 -> due(name + "spanning()", g.spanning(), value(model.polynomial, 1, 2));
            default -> due(name + "acyclic()", g.acyclic(), value(model.polynomial, 2, 0));
        }
    }

    private static void askCoefficient(String name, GraphPolynomials g, Model model, int i, int j) {
        due(name + "coefficient(" + i + ", " + j + ")", g.coefficient(i, j), model.coefficient(i, j));
    }

    private static void askColourings(String name, GraphPolynomials g, Model model, int k) {
        due(name + "colourings(" + k + ")", g.colourings(k), model.colourings(k));
    }

    private static void askFlows(String name, GraphPolynomials g, Model model, int k) {
        due(name + "flows(" + k + ")", g.flows(k), model.flows(k));
    }

    private static void askOne(String name, GraphPolynomials g, Model model) {
        int question = next(0, 9);
        if (question <= 5) {
            askPlain(name, g, model, question);
        } else if (question == 6) {
            askColourings(name, g, model, next(-1, 7));
        } else if (question == 7) {
            askFlows(name, g, model, next(0, 5));
        } else {
            askCoefficient(name, g, model, next(-1, 9), next(-1, 9));
        }
    }

    private static void askEach(String name, GraphPolynomials g, Model model) {
        for (int question = 0; question <= 5; question++) {
            askPlain(name, g, model, question);
        }
        askCoefficient(name, g, model, next(-1, 9), next(-1, 9));
        for (int k = -1; k <= 7; k++) {
            askColourings(name, g, model, k);
        }
        for (int k = 0; k <= 5; k++) {
            askFlows(name, g, model, k);
        }
    }

    private static void askEveryCoefficient(String name, GraphPolynomials g, Model model) {
        for (int i = 0; i <= 8; i++) {
            for (int j = 0; j <= 8; j++) {
                askCoefficient(name, g, model, i, j);
            }
        }
    }

    private static List<int[]> changed(String name, GraphPolynomials g, int points, List<int[]> edges) {
        int kind = next(0, 9);
        int i = next(-1, 8);
        boolean there = i >= 0 && i < edges.size();
        if (kind == 0) {
            due(name + "drop(" + i + ")", g.drop(i), there ? edges.size() - 1 : -1);
            return there ? without(edges, i) : edges;
        }
        if (kind <= 2) {
            due(name + "merge(" + i + ")", g.merge(i), there ? edges.size() - 1 : -1);
            return there ? merged(edges, i) : edges;
        }
        int u = next(0, 19) == 0 ? next(-1, 6) : next(0, points - 1);
        int v = next(0, 19) == 0 ? next(-1, 6) : next(0, points - 1);
        boolean bad = u < 0 || u >= points || v < 0 || v >= points;
        int want = edges.size() == 8 ? -2 : bad ? -1 : edges.size() + 1;
        due(name + "add(" + u + ", " + v + ")", g.add(u, v), want);
        if (want < 0) {
            return edges;
        }
        List<int[]> more = new ArrayList<>(edges);
        more.add(new int[] {u, v});
        return more;
    }

    private static int pointsOf(int given) {
        return Math.max(1, Math.min(6, given));
    }

    /** Every answer after every change. */
    private static void runByChanges(int run) {
        int given = next(-1, 8);
        int points = pointsOf(given);
        GraphPolynomials g = new GraphPolynomials(given);
        List<int[]> edges = new ArrayList<>();
        for (int change = 0; change < CHANGES; change++) {
            String name = "run " + run + ", change " + change + ": ";
            edges = changed(name, g, points, edges);
            askEach(name, g, new Model(points, edges));
        }
        askEveryCoefficient("run " + run + ", end: ", g, new Model(points, edges));
    }

    /** Calls of every kind, as many as an object is used for. */
    private static void runToTheLastCall(int run) {
        int given = next(-1, 8);
        int points = pointsOf(given);
        GraphPolynomials g = new GraphPolynomials(given);
        List<int[]> edges = new ArrayList<>();
        Model model = new Model(points, edges);
        for (int call = 1; call <= CALLS; call++) {
            String name = "full run " + run + ", call " + call + ": ";
            if (next(0, 1) == 0) {
                edges = changed(name, g, points, edges);
                model = new Model(points, edges);
            } else {
                askOne(name, g, model);
            }
        }
    }

    public static void main(String[] args) {
        for (int run = 0; run < RUNS; run++) {
            runByChanges(run);
        }
        for (int run = 0; run < FULL_RUNS; run++) {
            runToTheLastCall(run);
        }
        Check.finish();
    }
}
