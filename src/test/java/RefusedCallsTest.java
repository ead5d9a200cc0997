import java.util.ArrayList;
import java.util.List;
import java.util.function.Supplier;
import java.util.function.ToIntFunction;

/** A refused call answers as the document says and changes nothing that later calls answer. */
public final class RefusedCallsTest {
    private static final int BAD = -1;
    private static final int FULL = -2;
    private static final int NOUGHT = 0;
    private static final int LEAST = Integer.MIN_VALUE;
    private static final int GREATEST = Integer.MAX_VALUE;

    private record State(String name, int points, Supplier<GraphPolynomials> made) {
    }

    private record Call(String text, ToIntFunction<GraphPolynomials> on) {
    }

    private record Refusal(Call call, int due) {
        void makeOn(GraphPolynomials g) {
            Check.due(call.text, call.on.applyAsInt(g), due);
        }
    }

    // Here the places behind the last edge hold what was once an edge.
    private static GraphPolynomials lessened() {
        GraphPolynomials g = Graphs.twoByFour();
        g.drop(7);
        g.merge(0);
        g.drop(2);
        return g;
    }

    private static GraphPolynomials emptied() {
        GraphPolynomials g = Graphs.twoByFour();
        for (int left = 8; left > 0; left--) {
            g.drop(0);
        }
        return g;
    }

    private static List<State> states() {
        return List.of(
                new State("one point, no edges", 1, () -> new GraphPolynomials(1)),
                new State("six points, no edges", 6, () -> new GraphPolynomials(6)),
                new State("a triangle", 3, Graphs::triangle),
                new State("six points, seven edges", 6,
                        () -> Graphs.graph(6, 5, 4, 3, 3, 2, 1, 4, 1, 0, 3, 2, 2, 1, 5)),
                new State("six points, eight edges of every kind", 6,
                        () -> Graphs.graph(6, 4, 3, 2, 5, 1, 1, 5, 2, 3, 0, 1, 3, 4, 4, 2, 4)),
                new State("one point, eight edges", 1, Graphs::eightLoops),
                new State("two points, eight edges", 2, Graphs::eightParallels),
                new State("six points, eight edges", 6, Graphs::twoByFour),
                new State("eight edges, of which five are left", 6, RefusedCallsTest::lessened),
                new State("eight edges, of which none is left", 6, RefusedCallsTest::emptied));
    }

    private static Refusal add(int u, int v, int due) {
        return new Refusal(new Call("add(" + u + ", " + v + ")", g -> g.add(u, v)), due);
    }

    private static Refusal coefficient(int i, int j) {
        return new Refusal(new Call("coefficient(" + i + ", " + j + ")", g -> g.coefficient(i, j)), NOUGHT);
    }

    private static List<Refusal> refusals(int points, int edges) {
        List<Refusal> all = new ArrayList<>();
        int addDue = edges == 8 ? FULL : BAD;
        for (int point : new int[] {LEAST, -1, points, 6, 7, 256, GREATEST}) {
            all.add(add(point, 0, addDue));
            all.add(add(0, point, addDue));
            all.add(add(point, point, addDue));
        }
        if (edges == 8) {
            all.add(add(0, 0, FULL));
            all.add(add(0, points - 1, FULL));
        }
        for (int i : new int[] {LEAST, -1, edges, 8, 256, GREATEST}) {
            all.add(new Refusal(new Call("drop(" + i + ")", g -> g.drop(i)), BAD));
            all.add(new Refusal(new Call("merge(" + i + ")", g -> g.merge(i)), BAD));
        }
        for (int outside : new int[] {LEAST, -1, 9, GREATEST}) {
            all.add(coefficient(outside, 0));
            all.add(coefficient(0, outside));
            all.add(coefficient(outside, outside));
        }
        for (int k : new int[] {LEAST, -1, 7, GREATEST}) {
            all.add(new Refusal(new Call("colourings(" + k + ")", g -> g.colourings(k)), BAD));
        }
        for (int k : new int[] {LEAST, -1, 0, 5, GREATEST}) {
            all.add(new Refusal(new Call("flows(" + k + ")", g -> g.flows(k)), BAD));
        }
        return all;
    }

    /** Calls that change the object where it has room or edges for them. */
    private static List<Call> laterCalls(int points, int edges) {
        return List.of(
                new Call("edges()", g -> g.edges()),
                new Call("add(0, last point)", g -> g.add(0, points - 1)),
                new Call("drop(0)", g -> g.drop(0)),
                new Call("drop of the last edge", g -> g.drop(edges - 1)),
                new Call("merge(0)", g -> g.merge(0)),
                new Call("merge of the last edge", g -> g.merge(edges - 1)));
    }

    private static GraphPolynomials refused(State state, List<Refusal> refusals) {
        GraphPolynomials g = state.made.get();
        for (Refusal refusal : refusals) {
            refusal.makeOn(g);
        }
        return g;
    }

    private static GraphPolynomials then(GraphPolynomials g, Call later) {
        later.on.applyAsInt(g);
        return g;
    }

    private static void dueUnchanged(State state, List<Refusal> refusals) {
        int edges = state.made.get().edges();
        Check.due("later answers", Graphs.answers(refused(state, refusals)), Graphs.answers(state.made.get()));
        for (Call later : laterCalls(state.points, edges)) {
            Check.due("later " + later.text, later.on.applyAsInt(refused(state, refusals)),
                    later.on.applyAsInt(state.made.get()));
            Check.due("the list after a later " + later.text,
                    Graphs.edgeList(() -> then(refused(state, refusals), later)),
                    Graphs.edgeList(() -> then(state.made.get(), later)));
        }
    }

    public static void main(String[] args) {
        for (State state : states()) {
            List<Refusal> all = refusals(state.points, state.made.get().edges());
            for (Refusal refusal : all) {
                Check.test(state.name + ", after " + refusal.call.text,
                        () -> dueUnchanged(state, List.of(refusal)));
            }
            Check.test(state.name + ", after every refused call", () -> dueUnchanged(state, all));
        }
        Check.finish();
    }
}
