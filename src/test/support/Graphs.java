import java.util.ArrayList;
import java.util.List;
import java.util.function.Supplier;

/** Graphs that several tests use, and ways to read a whole object through its face. */
final class Graphs {
    private Graphs() {
    }

    /** A graph whose edges are given as pairs of ends, one after the other. */
    static GraphPolynomials graph(int points, int... ends) {
        GraphPolynomials made = new GraphPolynomials(points);
        for (int at = 0; at < ends.length; at += 2) {
            Check.due("graph: add", made.add(ends[at], ends[at + 1]), at / 2 + 1);
        }
        return made;
    }

    static GraphPolynomials triangle() {
        return graph(3, 0, 1, 1, 2, 2, 0);
    }

    static GraphPolynomials completeOnFour() {
        return graph(4, 0, 1, 0, 2, 0, 3, 1, 2, 1, 3, 2, 3);
    }

    static GraphPolynomials twoTriangles() {
        return graph(6, 0, 1, 1, 2, 2, 0, 3, 4, 4, 5, 5, 3);
    }

    static GraphPolynomials pathOfSix() {
        return graph(6, 0, 1, 1, 2, 2, 3, 3, 4, 4, 5);
    }

    static GraphPolynomials circleOfSix() {
        return graph(6, 0, 1, 1, 2, 2, 3, 3, 4, 4, 5, 5, 0);
    }

    /** The most edges on the fewest points. */
    static GraphPolynomials eightLoops() {
        return graph(1, 0, 0, 0, 0, 0, 0, 0, 0, 0, 0, 0, 0, 0, 0, 0, 0);
    }

    static GraphPolynomials eightParallels() {
        return graph(2, 0, 1, 1, 0, 0, 1, 1, 0, 0, 1, 1, 0, 0, 1, 1, 0);
    }

    /** The most edges on the most points: 0 and 1 each joined to all of 2, 3, 4 and 5. */
    static GraphPolynomials twoByFour() {
        return graph(6, 0, 2, 0, 3, 0, 4, 0, 5, 2, 1, 3, 1, 4, 1, 5, 1);
    }

    /** Every answer that leaves the object as it is. */
    static List<Integer> answers(GraphPolynomials g) {
        List<Integer> all = new ArrayList<>(List.of(
                g.edges(), g.parts(), g.trees(), g.forests(), g.spanning(), g.acyclic()));
        for (int k = 0; k <= 6; k++) {
            all.add(g.colourings(k));
        }
        for (int k = 1; k <= 4; k++) {
            all.add(g.flows(k));
        }
        for (int i = 0; i <= 8; i++) {
            for (int j = 0; j <= 8; j++) {
                all.add(g.coefficient(i, j));
            }
        }
        return all;
    }

    /**
     * The edges in their order, each with its smaller end first and a loop as "loop": which end is the first and
     * where a loop is no answer tells. Reading spends the object, so each edge is read from a new one.
     */
    static String edgeList(Supplier<GraphPolynomials> made) {
        int count = made.get().edges();
        List<String> edges = new ArrayList<>();
        for (int i = 0; i < count; i++) {
            GraphPolynomials g = made.get();
            for (int later = count - 1; later > i; later--) {
                g.drop(later);
            }
            for (int earlier = 0; earlier < i; earlier++) {
                g.drop(0);
            }
            edges.add(endsOfTheOnlyEdge(g));
        }
        return String.join(" ", edges);
    }

    // Makes no call that is refused: what refused calls do is for the tests to find.
    private static String endsOfTheOnlyEdge(GraphPolynomials g) {
        if (g.forests() == 1) {
            return "loop";
        }
        int parts = g.parts();
        int points = parts + 1;
        for (int p = 0; p < points; p++) {
            for (int q = p + 1; q < points; q++) {
                g.add(p, q);
                if (g.parts() == parts) {
                    return p + "-" + q;
                }
                g.drop(1);
            }
        }
        return "unknown";
    }
}
