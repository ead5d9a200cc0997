import java.util.function.Supplier;
import java.util.function.ToIntFunction;

/** What is promised holds up to an object's 512th call, whatever the calls before it were. */
public final class LastCallTest {
    private static final int BAD = -1;
    private static final int FULL = -2;
    private static final int CALLS = 512;
    private static final int EDGES = 8;

    /** The same call again and again, the first of them being the object's call number from. */
    private static void repeat(String name, GraphPolynomials g, int from, int to,
            ToIntFunction<GraphPolynomials> call, int want) {
        for (int number = from; number <= to; number++) {
            Check.due(name + " as call " + number, call.applyAsInt(g), want);
        }
    }

    private static void askToTheLast(String name, ToIntFunction<GraphPolynomials> call, int want) {
        repeat(name, Graphs.twoByFour(), EDGES + 1, CALLS, call, want);
    }

    private static void everyQuestionToTheLast() {
        askToTheLast("edges()", g -> g.edges(), 8);
        askToTheLast("parts()", g -> g.parts(), 1);
        askToTheLast("coefficient(5, 0)", g -> g.coefficient(5, 0), 1);
        askToTheLast("coefficient(9, 0)", g -> g.coefficient(9, 0), 0);
        askToTheLast("trees()", g -> g.trees(), 32);
        askToTheLast("forests()", g -> g.forests(), 189);
        askToTheLast("spanning()", g -> g.spanning(), 65);
        askToTheLast("colourings(2)", g -> g.colourings(2), 2);
        askToTheLast("colourings(7)", g -> g.colourings(7), BAD);
        askToTheLast("flows(4)", g -> g.flows(4), 21);
        askToTheLast("flows(5)", g -> g.flows(5), BAD);
        askToTheLast("acyclic()", g -> g.acyclic(), 146);
        askToTheLast("add(0, 0)", g -> g.add(0, 0), FULL);
        askToTheLast("add(6, 0)", g -> g.add(6, 0), FULL);
        askToTheLast("drop(8)", g -> g.drop(8), BAD);
        askToTheLast("merge(8)", g -> g.merge(8), BAD);
    }

    /** The last call is the first that is not refused. */
    private static void lastAfterRefusals(String name, Supplier<GraphPolynomials> made, int callsMade,
            ToIntFunction<GraphPolynomials> refused, int refusal, ToIntFunction<GraphPolynomials> last, int want) {
        GraphPolynomials g = made.get();
        repeat("refused before " + name, g, callsMade + 1, CALLS - 1, refused, refusal);
        Check.due(name + " as call " + CALLS, last.applyAsInt(g), want);
    }

    private static void everyChangeAsTheLast() {
        Supplier<GraphPolynomials> empty = () -> new GraphPolynomials(6);
        lastAfterRefusals("add(0, 5)", empty, 0, g -> g.add(0, 6), BAD, g -> g.add(0, 5), 1);
        lastAfterRefusals("parts()", empty, 0, g -> g.drop(0), BAD, g -> g.parts(), 6);
        lastAfterRefusals("trees()", empty, 0, g -> g.merge(0), BAD, g -> g.trees(), 1);
        lastAfterRefusals("drop(7)", Graphs::twoByFour, EDGES, g -> g.add(0, 1), FULL, g -> g.drop(7), 7);
        lastAfterRefusals("merge(7)", Graphs::twoByFour, EDGES, g -> g.add(-1, 1), FULL, g -> g.merge(7), 7);
        lastAfterRefusals("acyclic()", Graphs::twoByFour, EDGES, g -> g.flows(0), BAD, g -> g.acyclic(), 146);
        lastAfterRefusals("flows(3)", Graphs::twoByFour, EDGES, g -> g.drop(8), BAD, g -> g.flows(3), 6);
    }

    private static void addAndDropToTheLast() {
        GraphPolynomials g = new GraphPolynomials(6);
        for (int call = 1; call <= CALLS; call += 2) {
            Check.due("add(1, 2) as call " + call, g.add(1, 2), 1);
            Check.due("drop(0) as call " + (call + 1), g.drop(0), 0);
        }
    }

    private static void addAndMergeToTheLast() {
        GraphPolynomials g = new GraphPolynomials(6);
        for (int call = 1; call <= CALLS; call += 4) {
            Check.due("add(5, 4) as call " + call, g.add(5, 4), 1);
            Check.due("parts() as call " + (call + 1), g.parts(), 5);
            Check.due("merge(0) as call " + (call + 2), g.merge(0), 0);
            Check.due("parts() as call " + (call + 3), g.parts(), 6);
        }
    }

    private static void fillAndEmptyToTheLast() {
        GraphPolynomials g = new GraphPolynomials(6);
        for (int call = 1; call <= CALLS; call += 2 * EDGES) {
            for (int count = 1; count <= EDGES; count++) {
                Check.due("add after call " + call, g.add(count % 6, 0), count);
            }
            for (int left = EDGES - 1; left >= 0; left--) {
                Check.due("drop or merge after call " + call, left % 2 == 0 ? g.drop(left) : g.merge(0), left);
            }
        }
    }

    public static void main(String[] args) {
        Check.test("the same call up to the 512th", LastCallTest::everyQuestionToTheLast);
        Check.test("the 512th call after refused ones", LastCallTest::everyChangeAsTheLast);
        Check.test("add and drop up to the 512th call", LastCallTest::addAndDropToTheLast);
        Check.test("add and merge up to the 512th call", LastCallTest::addAndMergeToTheLast);
        Check.test("filled and emptied up to the 512th call", LastCallTest::fillAndEmptyToTheLast);
        Check.finish();
    }
}
