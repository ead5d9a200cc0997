import java.util.Collections;
import java.util.List;
import java.util.function.ToIntBiFunction;

/** Every sentence of the document that names a boundary case, each with a test of its own. */
public final class BoundariesTest {
    private static final int BAD = -1;
    private static final int FULL = -2;
    private static final int LEAST = Integer.MIN_VALUE;
    private static final int GREATEST = Integer.MAX_VALUE;

    // Outside every range of the document; cut down to fewer bits, most of them would fall inside.
    private static final int[] FAR_OUTSIDE = {
        LEAST, LEAST + 1, -65535, -65536, -256, -255, -32, -9, 9, 16, 32, 256, 257, 65536, 65537, 1 << 24,
        GREATEST - 1, GREATEST};

    private static final int[][] BAD_ENDS = {{-1, 0}, {0, -1}, {6, 0}, {0, 6}, {-1, 6}, {LEAST, GREATEST}};

    private static void due(String call, long got, long want) {
        Check.due(call, got, want);
    }

    private static List<GraphPolynomials> emptyAndFull() {
        return List.of(new GraphPolynomials(1), new GraphPolynomials(6), Graphs.eightLoops(),
                Graphs.eightParallels(), Graphs.twoByFour());
    }

    private static void dueAddIsBad(GraphPolynomials g, int point) {
        due("add(" + point + ", 0)", g.add(point, 0), BAD);
        due("add(0, " + point + ")", g.add(0, point), BAD);
        due("add(" + point + ", " + point + ")", g.add(point, point), BAD);
    }

    private static void pointsAreNumberedFromNought() {
        for (int n = 1; n <= 6; n++) {
            GraphPolynomials g = new GraphPolynomials(n);
            due(n + " points: add(0, 0)", g.add(0, 0), 1);
            due(n + " points: add of the last point", g.add(n - 1, n - 1), 2);
            due(n + " points: add of the first and the last", g.add(0, n - 1), 3);
            due(n + " points: add(-1, 0)", g.add(-1, 0), BAD);
            due(n + " points: add(" + n + ", 0)", g.add(n, 0), BAD);
        }
    }

    private static void thereAreUpToEightEdges() {
        GraphPolynomials g = new GraphPolynomials(6);
        for (int count = 1; count <= 8; count++) {
            due("add " + count, g.add(0, 1), count);
        }
        due("add 9", g.add(0, 1), FULL);
        due("trees() with eight edges", g.trees(), 8);
    }

    private static void endsMayBeTheSame() {
        for (int p = 0; p < 6; p++) {
            GraphPolynomials g = new GraphPolynomials(6);
            due("add(" + p + ", " + p + ")", g.add(p, p), 1);
            due("parts()", g.parts(), 6);
            due("coefficient(0, 1)", g.coefficient(0, 1), 1);
        }
    }

    private static void severalEdgesMayHaveTheSameEnds() {
        Check.due("the list", Graphs.edgeList(() -> Graphs.graph(3, 1, 2, 1, 2, 2, 1, 0, 0, 0, 0)),
                "1-2 1-2 1-2 loop loop");
        due("trees()", Graphs.graph(3, 1, 2, 1, 2, 2, 1, 0, 0, 0, 0).trees(), 3);
    }

    private static void duePoints(int given, int n) {
        String made = "new(" + given + "): ";
        GraphPolynomials g = new GraphPolynomials(given);
        due(made + "parts()", g.parts(), n);
        due(made + "colourings(2)", g.colourings(2), 1 << n);
        due(made + "add at the last point", g.add(n - 1, 0), 1);
        due(made + "add past the last point", g.add(n, 0), BAD);
    }

    private static void tooFewPointsAreOne() {
        for (int given : new int[] {0, -1, -2, -6, -250, -65531, LEAST, LEAST + 3}) {
            duePoints(given, 1);
        }
    }

    private static void tooManyPointsAreSix() {
        for (int given : new int[] {7, 8, 16, 256, 257, 65537, 1 << 30, GREATEST}) {
            duePoints(given, 6);
        }
    }

    private static void pointsInsideStay() {
        for (int n = 1; n <= 6; n++) {
            duePoints(n, n);
        }
    }

    private static void aNewObjectHasNoEdges() {
        for (int given : new int[] {LEAST, 0, 1, 3, 6, 7, GREATEST}) {
            GraphPolynomials g = new GraphPolynomials(given);
            due("new(" + given + "): edges()", g.edges(), 0);
            due("new(" + given + "): spanning()", g.spanning(), 1);
            due("new(" + given + "): drop(0)", g.drop(0), BAD);
            due("new(" + given + "): merge(0)", g.merge(0), BAD);
        }
    }

    private static void aNinthEdgeIsFull() {
        GraphPolynomials g = Graphs.twoByFour();
        due("add(0, 1)", g.add(0, 1), FULL);
        due("add(5, 5)", g.add(5, 5), FULL);
        due("edges()", g.edges(), 8);
        due("drop(7)", g.drop(7), 7);
        due("add(0, 1) with room again", g.add(0, 1), 8);
        due("add(0, 1) without it", g.add(0, 1), FULL);
        due("merge(7)", g.merge(7), 7);
        due("add(0, 0) after merge", g.add(0, 0), 8);
        due("add(0, 0) without room", g.add(0, 0), FULL);
    }

    private static void fullIsTestedBeforeBad() {
        GraphPolynomials most = Graphs.twoByFour();
        GraphPolynomials fewest = Graphs.eightLoops();
        for (int[] ends : BAD_ENDS) {
            String call = "add(" + ends[0] + ", " + ends[1] + ")";
            due("six points: " + call, most.add(ends[0], ends[1]), FULL);
            due("one point: " + call, fewest.add(ends[0], ends[1]), FULL);
        }
        due("drop(0)", most.drop(0), 7);
        due("drop(0)", fewest.drop(0), 7);
        for (int[] ends : BAD_ENDS) {
            String call = "with seven edges: add(" + ends[0] + ", " + ends[1] + ")";
            due("six points, " + call, most.add(ends[0], ends[1]), BAD);
            due("one point, " + call, fewest.add(ends[0], ends[1]), BAD);
        }
    }

    private static void anEndOutsideIsBad() {
        for (int n = 1; n <= 6; n++) {
            GraphPolynomials g = new GraphPolynomials(n);
            for (int point : FAR_OUTSIDE) {
                dueAddIsBad(g, point);
            }
            dueAddIsBad(g, -1);
            for (int point = n; point <= 8; point++) {
                dueAddIsBad(g, point);
            }
            due("edges()", g.edges(), 0);
        }
    }

    private static void everyEndInsideIsTaken() {
        for (int n = 1; n <= 6; n++) {
            for (int u = 0; u < n; u++) {
                for (int v = 0; v < n; v++) {
                    GraphPolynomials g = new GraphPolynomials(n);
                    due(n + " points: add(" + u + ", " + v + ")", g.add(u, v), 1);
                    due(n + " points: parts()", g.parts(), u == v ? n : n - 1);
                }
            }
        }
    }

    private static GraphPolynomials oneOfEachKind() {
        return Graphs.graph(6, 0, 1, 1, 2, 3, 3, 2, 3, 3, 4, 4, 5, 5, 5, 0, 5);
    }

    private static GraphPolynomials afterDrop(int i) {
        GraphPolynomials g = oneOfEachKind();
        due("drop(" + i + ")", g.drop(i), 7);
        return g;
    }

    private static void laterEdgesMoveOneDown() {
        String[] due = {
            "1-2 loop 2-3 3-4 4-5 loop 0-5", "0-1 loop 2-3 3-4 4-5 loop 0-5", "0-1 1-2 2-3 3-4 4-5 loop 0-5",
            "0-1 1-2 loop 3-4 4-5 loop 0-5", "0-1 1-2 loop 2-3 4-5 loop 0-5", "0-1 1-2 loop 2-3 3-4 loop 0-5",
            "0-1 1-2 loop 2-3 3-4 4-5 0-5", "0-1 1-2 loop 2-3 3-4 4-5 loop"};
        for (int i = 0; i < 8; i++) {
            int dropped = i;
            Check.due("drop(" + i + "): the list", Graphs.edgeList(() -> afterDrop(dropped)), due[i]);
        }
    }

    private static void dropDownToNone() {
        GraphPolynomials first = Graphs.twoByFour();
        GraphPolynomials last = Graphs.twoByFour();
        for (int left = 7; left >= 0; left--) {
            due("drop(0)", first.drop(0), left);
            due("drop(" + left + ")", last.drop(left), left);
        }
        due("drop(0) without edges", first.drop(0), BAD);
        due("parts() without edges", first.parts(), 6);
        due("add(0, 5)", first.add(0, 5), 1);
        due("parts()", first.parts(), 5);
    }

    /** A call of the given name that takes an edge out, on lists from eight edges down to none. */
    private static void dueBadForNoEdge(String name, ToIntBiFunction<GraphPolynomials, Integer> call) {
        GraphPolynomials g = Graphs.twoByFour();
        for (int count = 8; count >= 0; count--) {
            for (int i : FAR_OUTSIDE) {
                due(count + " edges: " + name + "(" + i + ")", call.applyAsInt(g, i), BAD);
            }
            due(count + " edges: " + name + "(-1)", call.applyAsInt(g, -1), BAD);
            for (int i = count; i <= 8; i++) {
                due(count + " edges: " + name + "(" + i + ")", call.applyAsInt(g, i), BAD);
            }
            due("edges()", g.edges(), count);
            due(count + " edges: " + name + "(0)", call.applyAsInt(g, 0), count == 0 ? BAD : count - 1);
        }
    }

    private static void dropOfNoEdgeIsBad() {
        dueBadForNoEdge("drop", GraphPolynomials::drop);
    }

    private static GraphPolynomials merged(int i, int points, int... ends) {
        GraphPolynomials g = Graphs.graph(points, ends);
        due("merge(" + i + ")", g.merge(i), ends.length / 2 - 1);
        return g;
    }

    private static void theGreaterEndGivesWay() {
        Check.due("smaller end first", Graphs.edgeList(() -> merged(0, 4, 1, 3, 3, 2, 0, 3, 1, 2)), "1-2 0-1 1-2");
        Check.due("greater end first", Graphs.edgeList(() -> merged(0, 4, 3, 1, 3, 2, 0, 3, 1, 2)), "1-2 0-1 1-2");
        Check.due("the least and the greatest point",
                Graphs.edgeList(() -> merged(3, 6, 5, 4, 1, 5, 5, 5, 5, 0, 0, 5, 2, 3)), "0-4 0-1 loop loop 2-3");
        Check.due("the last of eight",
                Graphs.edgeList(() -> merged(7, 6, 0, 2, 0, 3, 0, 4, 0, 5, 2, 1, 3, 1, 4, 1, 5, 1)),
                "0-2 0-3 0-4 0-1 1-2 1-3 1-4");
        Check.due("the first of eight",
                Graphs.edgeList(() -> merged(0, 6, 0, 2, 0, 3, 0, 4, 0, 5, 2, 1, 3, 1, 4, 1, 5, 1)),
                "0-3 0-4 0-5 0-1 1-3 1-4 1-5");
    }

    private static void theGreaterPointStaysWithoutEdges() {
        GraphPolynomials g = merged(0, 3, 2, 0, 1, 2);
        due("parts()", g.parts(), 2);
        due("colourings(2): point 2 has either colour", g.colourings(2), 4);
        due("add(2, 1): point 2 is still there", g.add(2, 1), 2);
        due("parts()", g.parts(), 1);
        due("add(3, 0): no point is new", g.add(3, 0), BAD);
    }

    private static void mergeOfEdgesWithTheSameEnds() {
        Check.due("parallels become loops", Graphs.edgeList(() -> merged(1, 2, 0, 1, 1, 0, 0, 1)), "loop loop");
        Check.due("a loop is only taken out",
                Graphs.edgeList(() -> merged(1, 3, 0, 1, 1, 1, 1, 2, 1, 1)), "0-1 1-2 loop");
        GraphPolynomials g = Graphs.eightLoops();
        for (int left = 7; left >= 0; left--) {
            due("merge(" + left + ") of a loop", g.merge(left), left);
        }
        due("merge(0) without edges", g.merge(0), BAD);
        due("parts()", g.parts(), 1);
    }

    private static void mergeDownToNone() {
        GraphPolynomials g = Graphs.pathOfSix();
        for (int left = 4; left >= 0; left--) {
            due("merge(0)", g.merge(0), left);
            due("parts()", g.parts(), 6 - left);
        }
        due("merge(0) without edges", g.merge(0), BAD);
        due("colourings(6)", g.colourings(6), 46656);
    }

    private static void mergeOfNoEdgeIsBad() {
        dueBadForNoEdge("merge", GraphPolynomials::merge);
    }

    private static void edgesFromNoneToEight() {
        GraphPolynomials g = new GraphPolynomials(6);
        due("none", g.edges(), 0);
        for (int count = 1; count <= 8; count++) {
            g.add(0, count % 6);
            due("after add", g.edges(), count);
        }
        g.add(0, 0);
        due("after FULL", g.edges(), 8);
        for (int count = 7; count >= 0; count -= 2) {
            g.drop(count);
            due("after drop", g.edges(), count);
            g.merge(0);
            due("after merge", g.edges(), Math.max(count - 1, 0));
        }
        g.drop(0);
        due("after BAD", g.edges(), 0);
    }

    private static void partsFromOneToSix() {
        for (int n = 1; n <= 6; n++) {
            due(n + " points without edges", new GraphPolynomials(n).parts(), n);
        }
        due("one point, eight edges", Graphs.eightLoops().parts(), 1);
        due("two points, eight edges", Graphs.eightParallels().parts(), 1);
        due("six points, eight edges", Graphs.twoByFour().parts(), 1);
        due("six points, eight loops", Graphs.graph(6, 0, 0, 1, 1, 2, 2, 3, 3, 4, 4, 5, 5, 0, 0, 5, 5).parts(), 6);
        due("five edges join six points", Graphs.pathOfSix().parts(), 1);
        due("four do not", Graphs.graph(6, 0, 1, 1, 2, 3, 4, 4, 5).parts(), 2);
    }

    private static void coefficientOutsideIsNought() {
        for (GraphPolynomials g : emptyAndFull()) {
            for (int outside : FAR_OUTSIDE) {
                due("coefficient(" + outside + ", 0)", g.coefficient(outside, 0), 0);
                due("coefficient(0, " + outside + ")", g.coefficient(0, outside), 0);
                due("coefficient(1, " + outside + ")", g.coefficient(1, outside), 0);
                due("coefficient(" + outside + ", " + outside + ")", g.coefficient(outside, outside), 0);
            }
            for (int other = -1; other <= 9; other++) {
                due("coefficient(-1, " + other + ")", g.coefficient(-1, other), 0);
                due("coefficient(9, " + other + ")", g.coefficient(9, other), 0);
                due("coefficient(" + other + ", -1)", g.coefficient(other, -1), 0);
                due("coefficient(" + other + ", 9)", g.coefficient(other, 9), 0);
            }
        }
    }

    /** Every coefficient inside 0..8 is nought but the one at i and j. */
    private static void dueOnly(String name, GraphPolynomials g, int i, int j) {
        for (int x = 0; x <= 8; x++) {
            for (int y = 0; y <= 8; y++) {
                due(name + ": coefficient(" + x + ", " + y + ")", g.coefficient(x, y), x == i && y == j ? 1 : 0);
            }
        }
    }

    private static void coefficientAtTheRangesEnds() {
        for (int n = 1; n <= 6; n++) {
            dueOnly(n + " points without edges", new GraphPolynomials(n), 0, 0);
        }
        dueOnly("eight loops at one point", Graphs.eightLoops(), 0, 8);
        dueOnly("five bridges", Graphs.pathOfSix(), 5, 0);
        dueOnly("five bridges and three loops",
                Graphs.graph(6, 0, 1, 1, 2, 2, 3, 3, 4, 4, 5, 5, 5, 0, 0, 3, 3), 5, 3);
        GraphPolynomials g = Graphs.twoByFour();
        due("six points, eight edges: the highest power of x", g.coefficient(5, 0), 1);
        due("six points, eight edges: the highest power of y", g.coefficient(0, 3), 1);
        due("six points, eight edges: x alone", g.coefficient(1, 0), 1);
        due("six points, eight edges: y alone", g.coefficient(0, 1), 1);
        due("six points, eight edges: without x and y", g.coefficient(0, 0), 0);
        due("two points, eight edges: y^7", Graphs.eightParallels().coefficient(0, 7), 1);
        due("two points, eight edges: y^8", Graphs.eightParallels().coefficient(0, 8), 0);
    }

    private static void treesAtTheEnds() {
        for (int n = 1; n <= 6; n++) {
            due(n + " points without edges: the empty set", new GraphPolynomials(n).trees(), 1);
        }
        due("one point, eight edges", Graphs.eightLoops().trees(), 1);
        due("two points, eight edges", Graphs.eightParallels().trees(), 8);
        due("six points, eight edges", Graphs.twoByFour().trees(), 32);
    }

    private static void forestsAtTheEnds() {
        for (int n = 1; n <= 6; n++) {
            due(n + " points without edges: the empty set", new GraphPolynomials(n).forests(), 1);
        }
        due("one point, eight edges", Graphs.eightLoops().forests(), 1);
        due("two points, eight edges", Graphs.eightParallels().forests(), 9);
        due("six points, eight edges", Graphs.twoByFour().forests(), 189);
    }

    private static void spanningAtTheEnds() {
        for (int n = 1; n <= 6; n++) {
            due(n + " points without edges: the empty set", new GraphPolynomials(n).spanning(), 1);
        }
        due("one point, eight edges: every set", Graphs.eightLoops().spanning(), 256);
        due("two points, eight edges", Graphs.eightParallels().spanning(), 255);
        due("six points, eight edges", Graphs.twoByFour().spanning(), 65);
    }

    private static void colouringsOutsideAreBad() {
        for (GraphPolynomials g : emptyAndFull()) {
            for (int k : FAR_OUTSIDE) {
                due("colourings(" + k + ")", g.colourings(k), BAD);
            }
            due("colourings(-1)", g.colourings(-1), BAD);
            due("colourings(7)", g.colourings(7), BAD);
            due("colourings(8)", g.colourings(8), BAD);
        }
    }

    private static void colouringsInsideAreCounted() {
        for (int k = 0; k <= 6; k++) {
            due("one point, " + k, new GraphPolynomials(1).colourings(k), k);
            due("six points, " + k, new GraphPolynomials(6).colourings(k), k * k * k * k * k * k);
            due("one point, eight edges, " + k, Graphs.eightLoops().colourings(k), 0);
            due("two points, eight edges, " + k, Graphs.eightParallels().colourings(k), k * (k - 1));
            int sameEnds = k * power(k - 1, 4);
            int otherEnds = k * (k - 1) * power(k - 2, 4);
            due("six points, eight edges, " + k, Graphs.twoByFour().colourings(k), sameEnds + otherEnds);
        }
    }

    private static int power(int base, int exponent) {
        return Collections.nCopies(exponent, base).stream().reduce(1, (one, other) -> one * other);
    }

    private static void flowsOutsideAreBad() {
        for (GraphPolynomials g : emptyAndFull()) {
            for (int k : FAR_OUTSIDE) {
                due("flows(" + k + ")", g.flows(k), BAD);
            }
            due("flows(-1)", g.flows(-1), BAD);
            due("flows(0)", g.flows(0), BAD);
            due("flows(5)", g.flows(5), BAD);
            due("flows(6)", g.flows(6), BAD);
        }
    }

    private static void flowsInsideAreCounted() {
        int[] parallels = {0, 1, 86, 1641};
        int[] twoByFour = {0, 1, 6, 21};
        for (int k = 1; k <= 4; k++) {
            for (int n = 1; n <= 6; n++) {
                due(n + " points without edges: the empty way, " + k, new GraphPolynomials(n).flows(k), 1);
            }
            due("a loop, " + k, Graphs.graph(1, 0, 0).flows(k), k - 1);
            due("one point, eight edges, " + k, Graphs.eightLoops().flows(k), power(k - 1, 8));
            due("two points, eight edges, " + k, Graphs.eightParallels().flows(k), parallels[k - 1]);
            due("six points, eight edges, " + k, Graphs.twoByFour().flows(k), twoByFour[k - 1]);
        }
    }

    private static void sumsMayDifferByAnyMultiple() {
        due("two of 1 from 0 to 1: by 2", Graphs.graph(2, 0, 1, 0, 1).flows(2), 1);
        due("two of 1 from 1 to 0: by -2", Graphs.graph(2, 1, 0, 1, 0).flows(2), 1);
        due("eight of 1 from 0 to 1: by 4 times 2",
                Graphs.graph(2, 0, 1, 0, 1, 0, 1, 0, 1, 0, 1, 0, 1, 0, 1, 0, 1).flows(2), 1);
        due("three of 1 or three of 2: by 3 or 6", Graphs.graph(2, 0, 1, 0, 1, 0, 1).flows(3), 2);
        due("one there, one back: by 0", Graphs.graph(2, 0, 1, 1, 0).flows(4), 3);
        due("three of 1 do not differ by a multiple of 2", Graphs.graph(2, 0, 1, 0, 1, 0, 1).flows(2), 0);
    }

    private static void aLoopIsACircleInEitherDirection() {
        for (int n = 1; n <= 6; n++) {
            for (int p = 0; p < n; p++) {
                due(n + " points, a loop at " + p, Graphs.graph(n, p, p).acyclic(), 0);
            }
        }
        due("a loop after seven others", Graphs.graph(6, 0, 1, 0, 1, 1, 2, 2, 3, 3, 4, 4, 5, 5, 0, 2, 2).acyclic(), 0);
        due("eight loops", Graphs.eightLoops().acyclic(), 0);
        GraphPolynomials g = Graphs.graph(2, 0, 1, 1, 1);
        due("with the loop", g.acyclic(), 0);
        g.drop(1);
        due("without it", g.acyclic(), 2);
    }

    private static void acyclicAtTheEnds() {
        for (int n = 1; n <= 6; n++) {
            due(n + " points without edges: the empty way", new GraphPolynomials(n).acyclic(), 1);
        }
        due("two edges with the same ends: a circle of two", Graphs.graph(2, 0, 1, 0, 1).acyclic(), 2);
        due("two points, eight edges", Graphs.eightParallels().acyclic(), 2);
        due("six points, five bridges", Graphs.pathOfSix().acyclic(), 32);
        due("six points, the longest circle", Graphs.circleOfSix().acyclic(), 62);
        due("six points, eight edges", Graphs.twoByFour().acyclic(), 146);
    }

    private static void testTermsAndNewObject() {
        Check.test("Terms, n POINTS (1 to 6), numbered from 0", BoundariesTest::pointsAreNumberedFromNought);
        Check.test("Terms, a list of up to 8 EDGES", BoundariesTest::thereAreUpToEightEdges);
        Check.test("Terms, points that may be the same", BoundariesTest::endsMayBeTheSame);
        Check.test("Terms, several edges may have the same ends", BoundariesTest::severalEdgesMayHaveTheSameEnds);
        Check.test("Promise 1, clamped: too small", BoundariesTest::tooFewPointsAreOne);
        Check.test("Promise 1, clamped: too large", BoundariesTest::tooManyPointsAreSix);
        Check.test("Promise 1, clamped: inside", BoundariesTest::pointsInsideStay);
        Check.test("Promise 1, no edges", BoundariesTest::aNewObjectHasNoEdges);
    }

    private static void testChanges() {
        Check.test("Promise 2, 8 edges are there: FULL", BoundariesTest::aNinthEdgeIsFull);
        Check.test("Promise 2, tested in this order", BoundariesTest::fullIsTestedBeforeBad);
        Check.test("Promise 2, u or v outside 0..n-1: BAD", BoundariesTest::anEndOutsideIsBad);
        Check.test("Promise 2, else answers the number of edges", BoundariesTest::everyEndInsideIsTaken);
        Check.test("Promise 3, later ones move one down", BoundariesTest::laterEdgesMoveOneDown);
        Check.test("Promise 3, the number of edges left", BoundariesTest::dropDownToNone);
        Check.test("Promise 3, there is no edge i: BAD", BoundariesTest::dropOfNoEdgeIsBad);
        Check.test("Promise 4, the smaller one instead", BoundariesTest::theGreaterEndGivesWay);
        Check.test("Promise 4, the greater point stays", BoundariesTest::theGreaterPointStaysWithoutEdges);
        Check.test("Promise 4, ends that are the same", BoundariesTest::mergeOfEdgesWithTheSameEnds);
        Check.test("Promise 4, the number of edges left", BoundariesTest::mergeDownToNone);
        Check.test("Promise 4, there is no edge i: BAD", BoundariesTest::mergeOfNoEdgeIsBad);
    }

    private static void testCounts() {
        Check.test("Promise 5, none to 8", BoundariesTest::edgesFromNoneToEight);
        Check.test("Promise 6, one to 6", BoundariesTest::partsFromOneToSix);
        Check.test("Promise 7, 0 if outside 0..8", BoundariesTest::coefficientOutsideIsNought);
        Check.test("Promise 7, inside 0..8", BoundariesTest::coefficientAtTheRangesEnds);
        Check.test("Promise 8, empty and full", BoundariesTest::treesAtTheEnds);
        Check.test("Promise 9, empty and full", BoundariesTest::forestsAtTheEnds);
        Check.test("Promise 10, empty and full", BoundariesTest::spanningAtTheEnds);
        Check.test("Promise 11, BAD for k outside 0..6", BoundariesTest::colouringsOutsideAreBad);
        Check.test("Promise 11, k inside 0..6", BoundariesTest::colouringsInsideAreCounted);
        Check.test("Promise 12, BAD for k outside 1..4", BoundariesTest::flowsOutsideAreBad);
        Check.test("Promise 12, k inside 1..4", BoundariesTest::flowsInsideAreCounted);
        Check.test("Promise 12, differ by a multiple of k", BoundariesTest::sumsMayDifferByAnyMultiple);
        Check.test("Promise 13, an edge whose ends are the same", BoundariesTest::aLoopIsACircleInEitherDirection);
        Check.test("Promise 13, empty and full", BoundariesTest::acyclicAtTheEnds);
    }

    public static void main(String[] args) {
        testTermsAndNewObject();
        testChanges();
        testCounts();
        Check.finish();
    }
}
