/** Each promise by hand-worked answers: ordinary inputs, the edges that the document names, wrong inputs. */
public final class PromisesTest {
    private static final int BAD = -1;
    private static final int FULL = -2;
    private static final int LEAST = Integer.MIN_VALUE;
    private static final int GREATEST = Integer.MAX_VALUE;

    private static void due(String call, int got, int want) {
        Check.due(call, got, want);
    }

    private static GraphPolynomials graph(int points, int... ends) {
        return Graphs.graph(points, ends);
    }

    private static void promise1NewObject() {
        int[] given = {LEAST, -1, 0, 1, 2, 3, 4, 5, 6, 7, GREATEST};
        int[] points = {1, 1, 1, 1, 2, 3, 4, 5, 6, 6, 6};
        for (int at = 0; at < given.length; at++) {
            String name = "P1: new(" + given[at] + "): ";
            GraphPolynomials made = new GraphPolynomials(given[at]);
            int n = points[at];
            due(name + "edges", made.edges(), 0);
            due(name + "parts", made.parts(), n);
            due(name + "colourings(2)", made.colourings(2), 1 << n);
            due(name + "add past the last point", made.add(n, 0), BAD);
            due(name + "add at the last point", made.add(n - 1, n - 1), 1);
        }
        GraphPolynomials one = new GraphPolynomials(2);
        GraphPolynomials other = new GraphPolynomials(2);
        due("P1: add to one", one.add(0, 1), 1);
        due("P1: the other stays empty", other.edges(), 0);
        due("P1: the other's parts", other.parts(), 2);
    }

    private static void promise2Add() {
        GraphPolynomials g = new GraphPolynomials(3);
        int[] outside = {LEAST, -1, 3, 6, GREATEST};
        for (int point : outside) {
            due("P2: add(" + point + ", 0)", g.add(point, 0), BAD);
            due("P2: add(0, " + point + ")", g.add(0, point), BAD);
            due("P2: add(" + point + ", " + point + ")", g.add(point, point), BAD);
        }
        due("P2: nothing was added", g.edges(), 0);
        due("P2: add(0, 1)", g.add(0, 1), 1);
        due("P2: the same again", g.add(0, 1), 2);
        due("P2: turned round", g.add(1, 0), 3);
        due("P2: a loop", g.add(2, 2), 4);
        due("P2: parts", g.parts(), 2);
        due("P2: fifth", g.add(0, 2), 5);
        due("P2: sixth", g.add(1, 2), 6);
        due("P2: seventh", g.add(1, 1), 7);
        due("P2: eighth", g.add(2, 1), 8);
        due("P2: ninth", g.add(0, 1), FULL);
        due("P2: FULL is tested before BAD", g.add(-1, 9), FULL);
        due("P2: still eight", g.edges(), 8);
        due("P2: drop(0)", g.drop(0), 7);
        due("P2: BAD again once there is room", g.add(0, 3), BAD);
        due("P2: room for one", g.add(0, 1), 8);
        due("P2: then full", g.add(0, 1), FULL);

        GraphPolynomials atEnd = graph(3, 0, 1);
        due("P2: add at the end", atEnd.add(2, 2), 2);
        due("P2: the last edge is the new one", atEnd.drop(1), 1);
        due("P2: the first edge is the old one", atEnd.parts(), 2);
    }

    private static void promise3Drop() {
        GraphPolynomials empty = new GraphPolynomials(4);
        due("P3: drop(0) without edges", empty.drop(0), BAD);
        int[] none = {LEAST, -1, 3, 8, GREATEST};
        GraphPolynomials g = Graphs.triangle();
        for (int i : none) {
            due("P3: drop(" + i + ")", g.drop(i), BAD);
        }
        due("P3: nothing was dropped", g.edges(), 3);
        due("P3: nothing was changed", g.trees(), 3);

        // The loop at 2 tells which edge is where: without it there are colourings.
        GraphPolynomials first = graph(3, 2, 2, 0, 1, 1, 2);
        due("P3: drop the first", first.drop(0), 2);
        due("P3: the two others are left", first.colourings(3), 12);
        GraphPolynomials middle = graph(3, 0, 1, 2, 2, 1, 2);
        due("P3: drop the middle", middle.drop(1), 2);
        due("P3: the outer two are left", middle.colourings(3), 12);
        GraphPolynomials last = graph(3, 0, 1, 1, 2, 2, 2);
        due("P3: drop the last", last.drop(2), 2);
        due("P3: the earlier two are left", last.colourings(3), 12);

        GraphPolynomials order = graph(4, 0, 1, 1, 1, 2, 3, 2, 2);
        due("P3: drop(0)", order.drop(0), 3);
        due("P3: later ones moved one down", order.drop(1), 2);
        due("P3: the loops are left", order.parts(), 4);
        due("P3: drop(2) is BAD now", order.drop(2), BAD);
        due("P3: drop(1)", order.drop(1), 1);
        due("P3: drop(0) down to none", order.drop(0), 0);
        due("P3: and none more", order.drop(0), BAD);
    }

    private static void promise4Merge() {
        GraphPolynomials empty = new GraphPolynomials(4);
        due("P4: merge(0) without edges", empty.merge(0), BAD);
        int[] none = {LEAST, -1, 3, 8, GREATEST};
        GraphPolynomials g = Graphs.triangle();
        for (int i : none) {
            due("P4: merge(" + i + ")", g.merge(i), BAD);
        }
        due("P4: nothing was merged", g.edges(), 3);
        due("P4: nothing was changed", g.trees(), 3);

        due("P4: merge(0)", g.merge(0), 2);
        due("P4: the greater point stays alone", g.parts(), 2);
        due("P4: two parallels from 0 to 2", g.trees(), 2);
        due("P4: the greater point can have edges again", g.add(1, 1), 3);
        due("P4: it is joined to none", g.parts(), 2);
        due("P4: merge of one of two parallels", g.merge(0), 2);
        due("P4: leaves a loop", g.parts(), 3);
        due("P4: of which no forest holds any", g.forests(), 1);

        // First end greater than second: the smaller point must be the one that is left.
        GraphPolynomials turned = graph(4, 3, 1, 3, 2, 0, 3);
        due("P4: merge with the first end greater", turned.merge(0), 2);
        due("P4: point 3 is without edges", turned.parts(), 2);
        due("P4: join 3 to the others", turned.add(3, 1), 3);
        due("P4: one part", turned.parts(), 1);
        GraphPolynomials kept = graph(4, 3, 1, 3, 2, 0, 3);
        due("P4: merge as before", kept.merge(0), 2);
        due("P4: join 1 to 0, closing a circle", kept.add(0, 1), 3);
        due("P4: 1, 2 and 0 are one part, 3 another", kept.parts(), 2);
        due("P4: two parallels from 0 to 1", kept.trees(), 2);

        GraphPolynomials loop = graph(2, 0, 1, 1, 1, 1, 0);
        due("P4: merge of a loop takes it out alone", loop.merge(1), 2);
        due("P4: the parallels stay", loop.trees(), 2);
        due("P4: and their ends", loop.parts(), 1);

        GraphPolynomials order = graph(4, 0, 1, 2, 2, 1, 3);
        due("P4: merge the first", order.merge(0), 2);
        due("P4: the loop is edge 0 now", order.drop(0), 1);
        due("P4: the edge 0 3 is left", order.colourings(2), 8);

        GraphPolynomials wise = graph(3, 1, 2, 0, 1, 2, 0);
        due("P4: merge keeps first and second ends", wise.merge(0), 2);
        due("P4: so 0 1 and 1 0 are left", wise.flows(3), 2);
    }

    private static void promise5Edges() {
        GraphPolynomials g = new GraphPolynomials(2);
        due("P5: none", g.edges(), 0);
        for (int count = 1; count <= 8; count++) {
            g.add(0, count % 2);
            due("P5: after add", g.edges(), count);
        }
        g.add(0, 0);
        due("P5: after FULL", g.edges(), 8);
        g.drop(9);
        due("P5: after BAD", g.edges(), 8);
        g.drop(7);
        due("P5: after drop", g.edges(), 7);
        g.merge(0);
        due("P5: after merge", g.edges(), 6);
    }

    private static void promise6Parts() {
        due("P6: no edges", new GraphPolynomials(6).parts(), 6);
        due("P6: one point", Graphs.eightLoops().parts(), 1);
        due("P6: loops join nothing", graph(3, 0, 0, 2, 2).parts(), 3);
        due("P6: parallels join once", graph(3, 0, 1, 1, 0).parts(), 2);
        due("P6: a path", Graphs.pathOfSix().parts(), 1);
        due("P6: a path out of order", graph(6, 4, 5, 0, 1, 3, 2, 5, 0, 2, 1).parts(), 1);
        due("P6: two triangles", Graphs.twoTriangles().parts(), 2);
        due("P6: two joined by one", graph(6, 0, 1, 2, 3, 3, 1).parts(), 3);
    }

    private static void dueCoefficients(String name, GraphPolynomials g, int... triples) {
        int[] want = new int[81];
        for (int at = 0; at < triples.length; at += 3) {
            want[9 * triples[at] + triples[at + 1]] = triples[at + 2];
        }
        for (int i = 0; i <= 8; i++) {
            for (int j = 0; j <= 8; j++) {
                due("P7: " + name + ": coefficient(" + i + ", " + j + ")", g.coefficient(i, j), want[9 * i + j]);
            }
        }
    }

    private static void promise7Coefficient() {
        dueCoefficients("no edges", new GraphPolynomials(6), 0, 0, 1);
        dueCoefficients("a bridge", graph(2, 0, 1), 1, 0, 1);
        dueCoefficients("a loop", graph(2, 1, 1), 0, 1, 1);
        dueCoefficients("eight loops", Graphs.eightLoops(), 0, 8, 1);
        dueCoefficients("five bridges", Graphs.pathOfSix(), 5, 0, 1);
        dueCoefficients("a triangle", Graphs.triangle(), 2, 0, 1, 1, 0, 1, 0, 1, 1);
        dueCoefficients("eight parallels", Graphs.eightParallels(),
                1, 0, 1, 0, 1, 1, 0, 2, 1, 0, 3, 1, 0, 4, 1, 0, 5, 1, 0, 6, 1, 0, 7, 1);
        dueCoefficients("the complete graph on four points", Graphs.completeOnFour(),
                3, 0, 1, 2, 0, 3, 1, 0, 2, 1, 1, 4, 0, 1, 2, 0, 2, 3, 0, 3, 1);
        dueCoefficients("two parts, a bridge and a loop", graph(5, 0, 1, 1, 0, 2, 3, 4, 4),
                2, 1, 1, 1, 2, 1);
        int[] outside = {LEAST, -1, 9, 32, GREATEST};
        for (int at : outside) {
            due("P7: coefficient(" + at + ", 0)", Graphs.triangle().coefficient(at, 0), 0);
            due("P7: coefficient(0, " + at + ")", Graphs.triangle().coefficient(0, at), 0);
            due("P7: coefficient(" + at + ", " + at + ")", Graphs.triangle().coefficient(at, at), 0);
        }
    }

    private static void promise8Trees() {
        due("P8: no edges", new GraphPolynomials(6).trees(), 1);
        due("P8: a triangle", Graphs.triangle().trees(), 3);
        due("P8: the complete graph on four points", Graphs.completeOnFour().trees(), 16);
        due("P8: eight loops", Graphs.eightLoops().trees(), 1);
        due("P8: eight parallels", Graphs.eightParallels().trees(), 8);
        due("P8: two triangles, apart", Graphs.twoTriangles().trees(), 9);
        due("P8: a circle of six", Graphs.circleOfSix().trees(), 6);
    }

    private static void promise9Forests() {
        due("P9: no edges", new GraphPolynomials(6).forests(), 1);
        due("P9: a triangle", Graphs.triangle().forests(), 7);
        due("P9: the complete graph on four points", Graphs.completeOnFour().forests(), 38);
        due("P9: eight loops", Graphs.eightLoops().forests(), 1);
        due("P9: eight parallels", Graphs.eightParallels().forests(), 9);
        due("P9: two triangles, apart", Graphs.twoTriangles().forests(), 49);
        due("P9: a path of six", Graphs.pathOfSix().forests(), 32);
    }

    private static void promise10Spanning() {
        due("P10: no edges", new GraphPolynomials(6).spanning(), 1);
        due("P10: a triangle", Graphs.triangle().spanning(), 4);
        due("P10: the complete graph on four points", Graphs.completeOnFour().spanning(), 38);
        due("P10: eight loops", Graphs.eightLoops().spanning(), 256);
        due("P10: eight parallels", Graphs.eightParallels().spanning(), 255);
        due("P10: two triangles, apart", Graphs.twoTriangles().spanning(), 16);
        due("P10: a path of six", Graphs.pathOfSix().spanning(), 1);
    }

    private static void promise11Colourings() {
        for (int k = 0; k <= 6; k++) {
            due("P11: no edges, " + k, new GraphPolynomials(6).colourings(k), k * k * k * k * k * k);
            due("P11: one point, " + k, new GraphPolynomials(1).colourings(k), k);
            due("P11: a triangle, " + k, Graphs.triangle().colourings(k), k * (k - 1) * (k - 2));
            due("P11: the complete graph on four points, " + k, Graphs.completeOnFour().colourings(k),
                    k * (k - 1) * (k - 2) * (k - 3));
            due("P11: eight parallels, " + k, Graphs.eightParallels().colourings(k), k * (k - 1));
            due("P11: eight loops, " + k, Graphs.eightLoops().colourings(k), 0);
            due("P11: a loop elsewhere, " + k, graph(6, 5, 5).colourings(k), 0);
        }
        int[] outside = {LEAST, -1, 7, GREATEST};
        for (int k : outside) {
            due("P11: colourings(" + k + ")", Graphs.triangle().colourings(k), BAD);
            due("P11: colourings(" + k + ") with a loop", Graphs.eightLoops().colourings(k), BAD);
        }
    }

    private static void promise12Flows() {
        for (int k = 1; k <= 4; k++) {
            due("P12: no edges, " + k, new GraphPolynomials(6).flows(k), 1);
            due("P12: a bridge, " + k, graph(2, 0, 1).flows(k), 0);
            due("P12: a loop, " + k, graph(6, 5, 5).flows(k), k - 1);
            due("P12: a triangle, " + k, Graphs.triangle().flows(k), k - 1);
            due("P12: a triangle with one edge turned, " + k, graph(3, 0, 1, 1, 2, 0, 2).flows(k), k - 1);
            due("P12: three parallels, " + k, graph(2, 0, 1, 0, 1, 1, 0).flows(k), (k - 1) * (k - 2));
            due("P12: the complete graph on four points, " + k, Graphs.completeOnFour().flows(k),
                    (k - 1) * (k - 2) * (k - 3));
        }
        due("P12: eight loops, 4", Graphs.eightLoops().flows(4), 6561);
        due("P12: eight loops, 2", Graphs.eightLoops().flows(2), 1);
        due("P12: eight loops, 1", Graphs.eightLoops().flows(1), 0);
        due("P12: eight parallels, 4", Graphs.eightParallels().flows(4), 1641);
        due("P12: eight parallels, 3", Graphs.eightParallels().flows(3), 86);
        int[] outside = {LEAST, -1, 0, 5, GREATEST};
        for (int k : outside) {
            due("P12: flows(" + k + ")", Graphs.triangle().flows(k), BAD);
            due("P12: flows(" + k + ") without edges", new GraphPolynomials(2).flows(k), BAD);
        }
    }

    private static void promise13Acyclic() {
        due("P13: no edges", new GraphPolynomials(6).acyclic(), 1);
        due("P13: a bridge", graph(2, 0, 1).acyclic(), 2);
        due("P13: a loop", graph(2, 1, 1).acyclic(), 0);
        due("P13: a loop beside a bridge", graph(3, 0, 1, 2, 2).acyclic(), 0);
        due("P13: a triangle", Graphs.triangle().acyclic(), 6);
        due("P13: a triangle with one edge turned", graph(3, 0, 1, 1, 2, 0, 2).acyclic(), 6);
        due("P13: the complete graph on four points", Graphs.completeOnFour().acyclic(), 24);
        due("P13: eight parallels", Graphs.eightParallels().acyclic(), 2);
        due("P13: a circle of six", Graphs.circleOfSix().acyclic(), 62);
        due("P13: a circle of six, otherwise numbered",
                graph(6, 0, 3, 3, 1, 1, 5, 5, 2, 2, 4, 4, 0).acyclic(), 62);
        due("P13: two triangles, apart", Graphs.twoTriangles().acyclic(), 36);
    }

    public static void main(String[] args) {
        promise1NewObject();
        promise2Add();
        promise3Drop();
        promise4Merge();
        promise5Edges();
        promise6Parts();
        promise7Coefficient();
        promise8Trees();
        promise9Forests();
        promise10Spanning();
        promise11Colourings();
        promise12Flows();
        promise13Acyclic();
        Check.finish();
    }
}
